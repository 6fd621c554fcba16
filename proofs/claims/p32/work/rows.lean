section
-- ===== PART A: goes FIRST, ahead of the names: the tables' words, and 'selects' of the private methods out of them =====
/-- a private method of a class that the tables say can be made, by its rows of tables_1 -/
def lw_okq (q : MethodName × Nat) : Prop := (q.1.cls ≠ "java/lang/invoke/MethodHandle" ∧ q.1.cls ≠ "java/lang/invoke/VarHandle") ∧ Cond.instantiable q.1.cls q.2 ∈ tables_1 ∧ Cond.privateMethod q.1 ∈ tables_1 ∧ Cond.instanceMethod q.1 ∈ tables_1
theorem lw_p0 : lw_okq (⟨"TablePager$Table", "makeNew", "()V"⟩, 13) := ⟨⟨by decide +kernel, by decide +kernel⟩, List.mem_of_getElem? (i := 45) (by decide +kernel), List.mem_of_getElem? (i := 51) (by decide +kernel), List.mem_of_getElem? (i := 52) (by decide +kernel)⟩
theorem lw_p1 : lw_okq (⟨"TablePager$Text", "readInto", "(LTablePager$Table;)I"⟩, 3) := ⟨⟨by decide +kernel, by decide +kernel⟩, List.mem_of_getElem? (i := 27) (by decide +kernel), List.mem_of_getElem? (i := 289) (by decide +kernel), List.mem_of_getElem? (i := 290) (by decide +kernel)⟩
theorem lw_p2 : lw_okq (⟨"TablePager$Text", "readHead", "(LTablePager$Table;)Z"⟩, 3) := ⟨⟨by decide +kernel, by decide +kernel⟩, List.mem_of_getElem? (i := 27) (by decide +kernel), List.mem_of_getElem? (i := 294) (by decide +kernel), List.mem_of_getElem? (i := 295) (by decide +kernel)⟩
theorem lw_p3 : lw_okq (⟨"TablePager$Text", "takeSign", "(C)Z"⟩, 3) := ⟨⟨by decide +kernel, by decide +kernel⟩, List.mem_of_getElem? (i := 27) (by decide +kernel), List.mem_of_getElem? (i := 298) (by decide +kernel), List.mem_of_getElem? (i := 299) (by decide +kernel)⟩
theorem lw_p4 : lw_okq (⟨"TablePager$Text", "takeDigit", "(II)I"⟩, 3) := ⟨⟨by decide +kernel, by decide +kernel⟩, List.mem_of_getElem? (i := 27) (by decide +kernel), List.mem_of_getElem? (i := 302) (by decide +kernel), List.mem_of_getElem? (i := 303) (by decide +kernel)⟩
theorem lw_p5 : lw_okq (⟨"TablePager$Text", "takePair", "(II)I"⟩, 3) := ⟨⟨by decide +kernel, by decide +kernel⟩, List.mem_of_getElem? (i := 27) (by decide +kernel), List.mem_of_getElem? (i := 306) (by decide +kernel), List.mem_of_getElem? (i := 307) (by decide +kernel)⟩
theorem lw_p6 : lw_okq (⟨"TablePager$Text", "readPart", "(LTablePager$Table;)Z"⟩, 3) := ⟨⟨by decide +kernel, by decide +kernel⟩, List.mem_of_getElem? (i := 27) (by decide +kernel), List.mem_of_getElem? (i := 316) (by decide +kernel), List.mem_of_getElem? (i := 317) (by decide +kernel)⟩
theorem lw_p7 : lw_okq (⟨"TablePager$Table", "isFull", "()Z"⟩, 13) := ⟨⟨by decide +kernel, by decide +kernel⟩, List.mem_of_getElem? (i := 45) (by decide +kernel), List.mem_of_getElem? (i := 320) (by decide +kernel), List.mem_of_getElem? (i := 321) (by decide +kernel)⟩
theorem lw_p8 : lw_okq (⟨"TablePager$Text", "readRow", "(LTablePager$Table;)Z"⟩, 3) := ⟨⟨by decide +kernel, by decide +kernel⟩, List.mem_of_getElem? (i := 27) (by decide +kernel), List.mem_of_getElem? (i := 324) (by decide +kernel), List.mem_of_getElem? (i := 325) (by decide +kernel)⟩
theorem lw_p9 : lw_okq (⟨"TablePager$Table", "putRow", "(II)V"⟩, 13) := ⟨⟨by decide +kernel, by decide +kernel⟩, List.mem_of_getElem? (i := 45) (by decide +kernel), List.mem_of_getElem? (i := 328) (by decide +kernel), List.mem_of_getElem? (i := 329) (by decide +kernel)⟩
theorem lw_p10 : lw_okq (⟨"TablePager$Table", "putAmount", "(III)V"⟩, 13) := ⟨⟨by decide +kernel, by decide +kernel⟩, List.mem_of_getElem? (i := 45) (by decide +kernel), List.mem_of_getElem? (i := 332) (by decide +kernel), List.mem_of_getElem? (i := 333) (by decide +kernel)⟩
theorem lw_p11 : lw_okq (⟨"TablePager$Text", "readNote", "(LTablePager$Table;)Z"⟩, 3) := ⟨⟨by decide +kernel, by decide +kernel⟩, List.mem_of_getElem? (i := 27) (by decide +kernel), List.mem_of_getElem? (i := 337) (by decide +kernel), List.mem_of_getElem? (i := 338) (by decide +kernel)⟩
theorem lw_p12 : lw_okq (⟨"TablePager$Text", "readNoteHeight", "(LTablePager$Table;)Z"⟩, 3) := ⟨⟨by decide +kernel, by decide +kernel⟩, List.mem_of_getElem? (i := 27) (by decide +kernel), List.mem_of_getElem? (i := 341) (by decide +kernel), List.mem_of_getElem? (i := 342) (by decide +kernel)⟩
theorem lw_p13 : lw_okq (⟨"TablePager$Table", "hasAllSpans", "()Z"⟩, 13) := ⟨⟨by decide +kernel, by decide +kernel⟩, List.mem_of_getElem? (i := 45) (by decide +kernel), List.mem_of_getElem? (i := 345) (by decide +kernel), List.mem_of_getElem? (i := 346) (by decide +kernel)⟩
theorem lw_p14 : lw_okq (⟨"TablePager$Text", "readSpan", "(LTablePager$Table;)Z"⟩, 3) := ⟨⟨by decide +kernel, by decide +kernel⟩, List.mem_of_getElem? (i := 27) (by decide +kernel), List.mem_of_getElem? (i := 349) (by decide +kernel), List.mem_of_getElem? (i := 350) (by decide +kernel)⟩
theorem lw_p15 : lw_okq (⟨"TablePager$Table", "putSpan", "(IIZ)V"⟩, 13) := ⟨⟨by decide +kernel, by decide +kernel⟩, List.mem_of_getElem? (i := 45) (by decide +kernel), List.mem_of_getElem? (i := 353) (by decide +kernel), List.mem_of_getElem? (i := 354) (by decide +kernel)⟩
def lw_privs_1 : List (MethodName × Nat) := [(⟨"TablePager$Table", "makeNew", "()V"⟩, 13), (⟨"TablePager$Text", "readInto", "(LTablePager$Table;)I"⟩, 3), (⟨"TablePager$Text", "readHead", "(LTablePager$Table;)Z"⟩, 3), (⟨"TablePager$Text", "takeSign", "(C)Z"⟩, 3), (⟨"TablePager$Text", "takeDigit", "(II)I"⟩, 3), (⟨"TablePager$Text", "takePair", "(II)I"⟩, 3), (⟨"TablePager$Text", "readPart", "(LTablePager$Table;)Z"⟩, 3), (⟨"TablePager$Table", "isFull", "()Z"⟩, 13), (⟨"TablePager$Text", "readRow", "(LTablePager$Table;)Z"⟩, 3), (⟨"TablePager$Table", "putRow", "(II)V"⟩, 13), (⟨"TablePager$Table", "putAmount", "(III)V"⟩, 13), (⟨"TablePager$Text", "readNote", "(LTablePager$Table;)Z"⟩, 3), (⟨"TablePager$Text", "readNoteHeight", "(LTablePager$Table;)Z"⟩, 3), (⟨"TablePager$Table", "hasAllSpans", "()Z"⟩, 13), (⟨"TablePager$Text", "readSpan", "(LTablePager$Table;)Z"⟩, 3), (⟨"TablePager$Table", "putSpan", "(IIZ)V"⟩, 13)]
theorem lw_r1 : ∀ q ∈ lw_privs_1, lw_okq q := List.forall_mem_cons.mpr ⟨lw_p0, List.forall_mem_cons.mpr ⟨lw_p1, List.forall_mem_cons.mpr ⟨lw_p2, List.forall_mem_cons.mpr ⟨lw_p3, List.forall_mem_cons.mpr ⟨lw_p4, List.forall_mem_cons.mpr ⟨lw_p5, List.forall_mem_cons.mpr ⟨lw_p6, List.forall_mem_cons.mpr ⟨lw_p7, List.forall_mem_cons.mpr ⟨lw_p8, List.forall_mem_cons.mpr ⟨lw_p9, List.forall_mem_cons.mpr ⟨lw_p10, List.forall_mem_cons.mpr ⟨lw_p11, List.forall_mem_cons.mpr ⟨lw_p12, List.forall_mem_cons.mpr ⟨lw_p13, List.forall_mem_cons.mpr ⟨lw_p14, List.forall_mem_cons.mpr ⟨lw_p15, fun _ h => absurd h List.not_mem_nil⟩⟩⟩⟩⟩⟩⟩⟩⟩⟩⟩⟩⟩⟩⟩⟩
theorem lw_p16 : lw_okq (⟨"java/lang/Throwable", "fillInStackTrace", "(I)Ljava/lang/Throwable;"⟩, 6) := ⟨⟨by decide +kernel, by decide +kernel⟩, List.mem_of_getElem? (i := 397) (by decide +kernel), List.mem_of_getElem? (i := 395) (by decide +kernel), List.mem_of_getElem? (i := 396) (by decide +kernel)⟩
theorem lw_p17 : lw_okq (⟨"TablePager$Table", "copyFrom", "(LTablePager$Table;)V"⟩, 13) := ⟨⟨by decide +kernel, by decide +kernel⟩, List.mem_of_getElem? (i := 45) (by decide +kernel), List.mem_of_getElem? (i := 427) (by decide +kernel), List.mem_of_getElem? (i := 428) (by decide +kernel)⟩
theorem lw_p18 : lw_okq (⟨"TablePager$History", "forget", "()V"⟩, 3) := ⟨⟨by decide +kernel, by decide +kernel⟩, List.mem_of_getElem? (i := 133) (by decide +kernel), List.mem_of_getElem? (i := 434) (by decide +kernel), List.mem_of_getElem? (i := 435) (by decide +kernel)⟩
theorem lw_p19 : lw_okq (⟨"TablePager$Slots", "empty", "()V"⟩, 2) := ⟨⟨by decide +kernel, by decide +kernel⟩, List.mem_of_getElem? (i := 153) (by decide +kernel), List.mem_of_getElem? (i := 438) (by decide +kernel), List.mem_of_getElem? (i := 439) (by decide +kernel)⟩
theorem lw_p20 : lw_okq (⟨"TablePager$Slots", "put", "(ILTablePager$Table;)V"⟩, 2) := ⟨⟨by decide +kernel, by decide +kernel⟩, List.mem_of_getElem? (i := 153) (by decide +kernel), List.mem_of_getElem? (i := 470) (by decide +kernel), List.mem_of_getElem? (i := 471) (by decide +kernel)⟩
theorem lw_p21 : lw_okq (⟨"TablePager$Slots", "isFilled", "(I)Z"⟩, 2) := ⟨⟨by decide +kernel, by decide +kernel⟩, List.mem_of_getElem? (i := 153) (by decide +kernel), List.mem_of_getElem? (i := 483) (by decide +kernel), List.mem_of_getElem? (i := 484) (by decide +kernel)⟩
theorem lw_p22 : lw_okq (⟨"TablePager$Slots", "copyTo", "(ILTablePager$Table;)V"⟩, 2) := ⟨⟨by decide +kernel, by decide +kernel⟩, List.mem_of_getElem? (i := 153) (by decide +kernel), List.mem_of_getElem? (i := 488) (by decide +kernel), List.mem_of_getElem? (i := 489) (by decide +kernel)⟩
theorem lw_p23 : lw_okq (⟨"TablePager", "countPages", "()I"⟩, 8) := ⟨⟨by decide +kernel, by decide +kernel⟩, List.mem_of_getElem? (i := 19) (by decide +kernel), List.mem_of_getElem? (i := 508) (by decide +kernel), List.mem_of_getElem? (i := 509) (by decide +kernel)⟩
theorem lw_p24 : lw_okq (⟨"TablePager", "layOut", "()V"⟩, 8) := ⟨⟨by decide +kernel, by decide +kernel⟩, List.mem_of_getElem? (i := 19) (by decide +kernel), List.mem_of_getElem? (i := 512) (by decide +kernel), List.mem_of_getElem? (i := 513) (by decide +kernel)⟩
theorem lw_p25 : lw_okq (⟨"TablePager$Layout", "lay", "(LTablePager$Table;I)V"⟩, 4) := ⟨⟨by decide +kernel, by decide +kernel⟩, List.mem_of_getElem? (i := 168) (by decide +kernel), List.mem_of_getElem? (i := 516) (by decide +kernel), List.mem_of_getElem? (i := 517) (by decide +kernel)⟩
theorem lw_p26 : lw_okq (⟨"TablePager$Table", "endRows", "()I"⟩, 13) := ⟨⟨by decide +kernel, by decide +kernel⟩, List.mem_of_getElem? (i := 45) (by decide +kernel), List.mem_of_getElem? (i := 520) (by decide +kernel), List.mem_of_getElem? (i := 521) (by decide +kernel)⟩
theorem lw_p27 : lw_okq (⟨"TablePager$Table", "cutRows", "()I"⟩, 13) := ⟨⟨by decide +kernel, by decide +kernel⟩, List.mem_of_getElem? (i := 45) (by decide +kernel), List.mem_of_getElem? (i := 524) (by decide +kernel), List.mem_of_getElem? (i := 525) (by decide +kernel)⟩
theorem lw_p28 : lw_okq (⟨"TablePager$Layout", "lastThatFits", "(LTablePager$Table;III)I"⟩, 4) := ⟨⟨by decide +kernel, by decide +kernel⟩, List.mem_of_getElem? (i := 168) (by decide +kernel), List.mem_of_getElem? (i := 531) (by decide +kernel), List.mem_of_getElem? (i := 532) (by decide +kernel)⟩
theorem lw_p29 : lw_okq (⟨"TablePager$Sheet", "begin", "(LTablePager$Table;I)V"⟩, 4) := ⟨⟨by decide +kernel, by decide +kernel⟩, List.mem_of_getElem? (i := 174) (by decide +kernel), List.mem_of_getElem? (i := 536) (by decide +kernel), List.mem_of_getElem? (i := 537) (by decide +kernel)⟩
theorem lw_p30 : lw_okq (⟨"TablePager$Sheet", "take", "(LTablePager$Table;I)V"⟩, 4) := ⟨⟨by decide +kernel, by decide +kernel⟩, List.mem_of_getElem? (i := 174) (by decide +kernel), List.mem_of_getElem? (i := 540) (by decide +kernel), List.mem_of_getElem? (i := 541) (by decide +kernel)⟩
theorem lw_p31 : lw_okq (⟨"TablePager$Sheet", "needed", "()I"⟩, 4) := ⟨⟨by decide +kernel, by decide +kernel⟩, List.mem_of_getElem? (i := 174) (by decide +kernel), List.mem_of_getElem? (i := 547) (by decide +kernel), List.mem_of_getElem? (i := 548) (by decide +kernel)⟩
def lw_privs_2 : List (MethodName × Nat) := [(⟨"java/lang/Throwable", "fillInStackTrace", "(I)Ljava/lang/Throwable;"⟩, 6), (⟨"TablePager$Table", "copyFrom", "(LTablePager$Table;)V"⟩, 13), (⟨"TablePager$History", "forget", "()V"⟩, 3), (⟨"TablePager$Slots", "empty", "()V"⟩, 2), (⟨"TablePager$Slots", "put", "(ILTablePager$Table;)V"⟩, 2), (⟨"TablePager$Slots", "isFilled", "(I)Z"⟩, 2), (⟨"TablePager$Slots", "copyTo", "(ILTablePager$Table;)V"⟩, 2), (⟨"TablePager", "countPages", "()I"⟩, 8), (⟨"TablePager", "layOut", "()V"⟩, 8), (⟨"TablePager$Layout", "lay", "(LTablePager$Table;I)V"⟩, 4), (⟨"TablePager$Table", "endRows", "()I"⟩, 13), (⟨"TablePager$Table", "cutRows", "()I"⟩, 13), (⟨"TablePager$Layout", "lastThatFits", "(LTablePager$Table;III)I"⟩, 4), (⟨"TablePager$Sheet", "begin", "(LTablePager$Table;I)V"⟩, 4), (⟨"TablePager$Sheet", "take", "(LTablePager$Table;I)V"⟩, 4), (⟨"TablePager$Sheet", "needed", "()I"⟩, 4)]
theorem lw_r2 : ∀ q ∈ lw_privs_2, lw_okq q := List.forall_mem_cons.mpr ⟨lw_p16, List.forall_mem_cons.mpr ⟨lw_p17, List.forall_mem_cons.mpr ⟨lw_p18, List.forall_mem_cons.mpr ⟨lw_p19, List.forall_mem_cons.mpr ⟨lw_p20, List.forall_mem_cons.mpr ⟨lw_p21, List.forall_mem_cons.mpr ⟨lw_p22, List.forall_mem_cons.mpr ⟨lw_p23, List.forall_mem_cons.mpr ⟨lw_p24, List.forall_mem_cons.mpr ⟨lw_p25, List.forall_mem_cons.mpr ⟨lw_p26, List.forall_mem_cons.mpr ⟨lw_p27, List.forall_mem_cons.mpr ⟨lw_p28, List.forall_mem_cons.mpr ⟨lw_p29, List.forall_mem_cons.mpr ⟨lw_p30, List.forall_mem_cons.mpr ⟨lw_p31, fun _ h => absurd h List.not_mem_nil⟩⟩⟩⟩⟩⟩⟩⟩⟩⟩⟩⟩⟩⟩⟩⟩
theorem lw_p32 : lw_okq (⟨"TablePager$Layout", "countCutSpans", "(LTablePager$Table;)I"⟩, 4) := ⟨⟨by decide +kernel, by decide +kernel⟩, List.mem_of_getElem? (i := 168) (by decide +kernel), List.mem_of_getElem? (i := 555) (by decide +kernel), List.mem_of_getElem? (i := 556) (by decide +kernel)⟩
theorem lw_p33 : lw_okq (⟨"TablePager$Layout", "pagesOfSpan", "(LTablePager$Table;I)I"⟩, 4) := ⟨⟨by decide +kernel, by decide +kernel⟩, List.mem_of_getElem? (i := 168) (by decide +kernel), List.mem_of_getElem? (i := 559) (by decide +kernel), List.mem_of_getElem? (i := 560) (by decide +kernel)⟩
theorem lw_p34 : lw_okq (⟨"TablePager$Layout", "pageOf", "(I)I"⟩, 4) := ⟨⟨by decide +kernel, by decide +kernel⟩, List.mem_of_getElem? (i := 168) (by decide +kernel), List.mem_of_getElem? (i := 563) (by decide +kernel), List.mem_of_getElem? (i := 564) (by decide +kernel)⟩
theorem lw_p35 : lw_okq (⟨"TablePager", "requireRow", "(I)V"⟩, 8) := ⟨⟨by decide +kernel, by decide +kernel⟩, List.mem_of_getElem? (i := 19) (by decide +kernel), List.mem_of_getElem? (i := 599) (by decide +kernel), List.mem_of_getElem? (i := 600) (by decide +kernel)⟩
theorem lw_p36 : lw_okq (⟨"TablePager$Table", "hasRow", "(I)Z"⟩, 13) := ⟨⟨by decide +kernel, by decide +kernel⟩, List.mem_of_getElem? (i := 45) (by decide +kernel), List.mem_of_getElem? (i := 603) (by decide +kernel), List.mem_of_getElem? (i := 604) (by decide +kernel)⟩
theorem lw_p37 : lw_okq (⟨"TablePager", "requireColumn", "(I)V"⟩, 8) := ⟨⟨by decide +kernel, by decide +kernel⟩, List.mem_of_getElem? (i := 19) (by decide +kernel), List.mem_of_getElem? (i := 619) (by decide +kernel), List.mem_of_getElem? (i := 620) (by decide +kernel)⟩
theorem lw_p38 : lw_okq (⟨"TablePager$Table", "hasColumn", "(I)Z"⟩, 13) := ⟨⟨by decide +kernel, by decide +kernel⟩, List.mem_of_getElem? (i := 45) (by decide +kernel), List.mem_of_getElem? (i := 623) (by decide +kernel), List.mem_of_getElem? (i := 624) (by decide +kernel)⟩
theorem lw_p39 : lw_okq (⟨"TablePager$Table", "amountAt", "(II)I"⟩, 13) := ⟨⟨by decide +kernel, by decide +kernel⟩, List.mem_of_getElem? (i := 45) (by decide +kernel), List.mem_of_getElem? (i := 628) (by decide +kernel), List.mem_of_getElem? (i := 629) (by decide +kernel)⟩
theorem lw_p40 : lw_okq (⟨"TablePager", "requireSpan", "(I)V"⟩, 8) := ⟨⟨by decide +kernel, by decide +kernel⟩, List.mem_of_getElem? (i := 19) (by decide +kernel), List.mem_of_getElem? (i := 640) (by decide +kernel), List.mem_of_getElem? (i := 641) (by decide +kernel)⟩
theorem lw_p41 : lw_okq (⟨"TablePager$Table", "hasSpan", "(I)Z"⟩, 13) := ⟨⟨by decide +kernel, by decide +kernel⟩, List.mem_of_getElem? (i := 45) (by decide +kernel), List.mem_of_getElem? (i := 644) (by decide +kernel), List.mem_of_getElem? (i := 645) (by decide +kernel)⟩
theorem lw_p42 : lw_okq (⟨"TablePager", "requirePage", "(I)V"⟩, 8) := ⟨⟨by decide +kernel, by decide +kernel⟩, List.mem_of_getElem? (i := 19) (by decide +kernel), List.mem_of_getElem? (i := 658) (by decide +kernel), List.mem_of_getElem? (i := 659) (by decide +kernel)⟩
theorem lw_p43 : lw_okq (⟨"TablePager$Layout", "hasPage", "(I)Z"⟩, 4) := ⟨⟨by decide +kernel, by decide +kernel⟩, List.mem_of_getElem? (i := 168) (by decide +kernel), List.mem_of_getElem? (i := 662) (by decide +kernel), List.mem_of_getElem? (i := 663) (by decide +kernel)⟩
theorem lw_p44 : lw_okq (⟨"TablePager$Layout", "sheetOf", "(LTablePager$Table;I)LTablePager$Sheet;"⟩, 4) := ⟨⟨by decide +kernel, by decide +kernel⟩, List.mem_of_getElem? (i := 168) (by decide +kernel), List.mem_of_getElem? (i := 667) (by decide +kernel), List.mem_of_getElem? (i := 668) (by decide +kernel)⟩
theorem lw_p45 : lw_okq (⟨"TablePager$Layout", "firstOf", "(I)I"⟩, 4) := ⟨⟨by decide +kernel, by decide +kernel⟩, List.mem_of_getElem? (i := 168) (by decide +kernel), List.mem_of_getElem? (i := 671) (by decide +kernel), List.mem_of_getElem? (i := 672) (by decide +kernel)⟩
theorem lw_p46 : lw_okq (⟨"TablePager$Layout", "lastOf", "(I)I"⟩, 4) := ⟨⟨by decide +kernel, by decide +kernel⟩, List.mem_of_getElem? (i := 168) (by decide +kernel), List.mem_of_getElem? (i := 675) (by decide +kernel), List.mem_of_getElem? (i := 676) (by decide +kernel)⟩
theorem lw_p47 : lw_okq (⟨"TablePager$Layout", "fill", "(LTablePager$Table;II)V"⟩, 4) := ⟨⟨by decide +kernel, by decide +kernel⟩, List.mem_of_getElem? (i := 168) (by decide +kernel), List.mem_of_getElem? (i := 679) (by decide +kernel), List.mem_of_getElem? (i := 680) (by decide +kernel)⟩
def lw_privs_3 : List (MethodName × Nat) := [(⟨"TablePager$Layout", "countCutSpans", "(LTablePager$Table;)I"⟩, 4), (⟨"TablePager$Layout", "pagesOfSpan", "(LTablePager$Table;I)I"⟩, 4), (⟨"TablePager$Layout", "pageOf", "(I)I"⟩, 4), (⟨"TablePager", "requireRow", "(I)V"⟩, 8), (⟨"TablePager$Table", "hasRow", "(I)Z"⟩, 13), (⟨"TablePager", "requireColumn", "(I)V"⟩, 8), (⟨"TablePager$Table", "hasColumn", "(I)Z"⟩, 13), (⟨"TablePager$Table", "amountAt", "(II)I"⟩, 13), (⟨"TablePager", "requireSpan", "(I)V"⟩, 8), (⟨"TablePager$Table", "hasSpan", "(I)Z"⟩, 13), (⟨"TablePager", "requirePage", "(I)V"⟩, 8), (⟨"TablePager$Layout", "hasPage", "(I)Z"⟩, 4), (⟨"TablePager$Layout", "sheetOf", "(LTablePager$Table;I)LTablePager$Sheet;"⟩, 4), (⟨"TablePager$Layout", "firstOf", "(I)I"⟩, 4), (⟨"TablePager$Layout", "lastOf", "(I)I"⟩, 4), (⟨"TablePager$Layout", "fill", "(LTablePager$Table;II)V"⟩, 4)]
theorem lw_r3 : ∀ q ∈ lw_privs_3, lw_okq q := List.forall_mem_cons.mpr ⟨lw_p32, List.forall_mem_cons.mpr ⟨lw_p33, List.forall_mem_cons.mpr ⟨lw_p34, List.forall_mem_cons.mpr ⟨lw_p35, List.forall_mem_cons.mpr ⟨lw_p36, List.forall_mem_cons.mpr ⟨lw_p37, List.forall_mem_cons.mpr ⟨lw_p38, List.forall_mem_cons.mpr ⟨lw_p39, List.forall_mem_cons.mpr ⟨lw_p40, List.forall_mem_cons.mpr ⟨lw_p41, List.forall_mem_cons.mpr ⟨lw_p42, List.forall_mem_cons.mpr ⟨lw_p43, List.forall_mem_cons.mpr ⟨lw_p44, List.forall_mem_cons.mpr ⟨lw_p45, List.forall_mem_cons.mpr ⟨lw_p46, List.forall_mem_cons.mpr ⟨lw_p47, fun _ h => absurd h List.not_mem_nil⟩⟩⟩⟩⟩⟩⟩⟩⟩⟩⟩⟩⟩⟩⟩⟩
theorem lw_p48 : lw_okq (⟨"TablePager$Sheet", "noteBits", "()I"⟩, 4) := ⟨⟨by decide +kernel, by decide +kernel⟩, List.mem_of_getElem? (i := 174) (by decide +kernel), List.mem_of_getElem? (i := 686) (by decide +kernel), List.mem_of_getElem? (i := 687) (by decide +kernel)⟩
theorem lw_p49 : lw_okq (⟨"TablePager$Table", "sumOfRows", "(III)I"⟩, 13) := ⟨⟨by decide +kernel, by decide +kernel⟩, List.mem_of_getElem? (i := 45) (by decide +kernel), List.mem_of_getElem? (i := 698) (by decide +kernel), List.mem_of_getElem? (i := 699) (by decide +kernel)⟩
theorem lw_p50 : lw_okq (⟨"TablePager$History", "remember", "(LTablePager$Table;)V"⟩, 3) := ⟨⟨by decide +kernel, by decide +kernel⟩, List.mem_of_getElem? (i := 133) (by decide +kernel), List.mem_of_getElem? (i := 730) (by decide +kernel), List.mem_of_getElem? (i := 731) (by decide +kernel)⟩
theorem lw_p51 : lw_okq (⟨"TablePager$Table", "dropRow", "(I)I"⟩, 13) := ⟨⟨by decide +kernel, by decide +kernel⟩, List.mem_of_getElem? (i := 45) (by decide +kernel), List.mem_of_getElem? (i := 771) (by decide +kernel), List.mem_of_getElem? (i := 772) (by decide +kernel)⟩
theorem lw_p52 : lw_okq (⟨"TablePager$Table", "takeRowFromSpans", "(I)I"⟩, 13) := ⟨⟨by decide +kernel, by decide +kernel⟩, List.mem_of_getElem? (i := 45) (by decide +kernel), List.mem_of_getElem? (i := 775) (by decide +kernel), List.mem_of_getElem? (i := 776) (by decide +kernel)⟩
theorem lw_p53 : lw_okq (⟨"TablePager$Table", "dropSpan", "(I)V"⟩, 13) := ⟨⟨by decide +kernel, by decide +kernel⟩, List.mem_of_getElem? (i := 45) (by decide +kernel), List.mem_of_getElem? (i := 787) (by decide +kernel), List.mem_of_getElem? (i := 788) (by decide +kernel)⟩
theorem lw_p54 : lw_okq (⟨"TablePager$Table", "putHeight", "(II)V"⟩, 13) := ⟨⟨by decide +kernel, by decide +kernel⟩, List.mem_of_getElem? (i := 45) (by decide +kernel), List.mem_of_getElem? (i := 802) (by decide +kernel), List.mem_of_getElem? (i := 803) (by decide +kernel)⟩
theorem lw_p55 : lw_okq (⟨"TablePager$Evener", "leastCost", "(LTablePager$Table;)I"⟩, 3) := ⟨⟨by decide +kernel, by decide +kernel⟩, List.mem_of_getElem? (i := 211) (by decide +kernel), List.mem_of_getElem? (i := 821) (by decide +kernel), List.mem_of_getElem? (i := 822) (by decide +kernel)⟩
theorem lw_p56 : lw_okq (⟨"TablePager$Evener", "chooseEnd", "(LTablePager$Table;II)V"⟩, 3) := ⟨⟨by decide +kernel, by decide +kernel⟩, List.mem_of_getElem? (i := 211) (by decide +kernel), List.mem_of_getElem? (i := 826) (by decide +kernel), List.mem_of_getElem? (i := 827) (by decide +kernel)⟩
theorem lw_p57 : lw_okq (⟨"TablePager$Evener", "costOfSheet", "(LTablePager$Table;I)I"⟩, 3) := ⟨⟨by decide +kernel, by decide +kernel⟩, List.mem_of_getElem? (i := 211) (by decide +kernel), List.mem_of_getElem? (i := 833) (by decide +kernel), List.mem_of_getElem? (i := 834) (by decide +kernel)⟩
theorem lw_p58 : lw_okq (⟨"TablePager$Evener", "lastOf", "(LTablePager$Table;I)I"⟩, 3) := ⟨⟨by decide +kernel, by decide +kernel⟩, List.mem_of_getElem? (i := 211) (by decide +kernel), List.mem_of_getElem? (i := 838) (by decide +kernel), List.mem_of_getElem? (i := 839) (by decide +kernel)⟩
theorem lw_p59 : lw_okq (⟨"TablePager$Layout", "emptyFromRow", "(LTablePager$Table;I)I"⟩, 4) := ⟨⟨by decide +kernel, by decide +kernel⟩, List.mem_of_getElem? (i := 168) (by decide +kernel), List.mem_of_getElem? (i := 850) (by decide +kernel), List.mem_of_getElem? (i := 851) (by decide +kernel)⟩
theorem lw_p60 : lw_okq (⟨"TablePager$Command", "setDigits", "(I)V"⟩, 5) := ⟨⟨by decide +kernel, by decide +kernel⟩, List.mem_of_getElem? (i := 229) (by decide +kernel), List.mem_of_getElem? (i := 867) (by decide +kernel), List.mem_of_getElem? (i := 868) (by decide +kernel)⟩
theorem lw_p61 : lw_okq (⟨"TablePager$Command", "runOn", "(LTablePager$Table;LTablePager$Layout;)Z"⟩, 5) := ⟨⟨by decide +kernel, by decide +kernel⟩, List.mem_of_getElem? (i := 229) (by decide +kernel), List.mem_of_getElem? (i := 871) (by decide +kernel), List.mem_of_getElem? (i := 872) (by decide +kernel)⟩
theorem lw_p62 : lw_okq (⟨"TablePager$Command", "addsRow", "(LTablePager$Table;)Z"⟩, 5) := ⟨⟨by decide +kernel, by decide +kernel⟩, List.mem_of_getElem? (i := 229) (by decide +kernel), List.mem_of_getElem? (i := 875) (by decide +kernel), List.mem_of_getElem? (i := 876) (by decide +kernel)⟩
theorem lw_p63 : lw_okq (⟨"TablePager$Command", "putsAmount", "(LTablePager$Table;)Z"⟩, 5) := ⟨⟨by decide +kernel, by decide +kernel⟩, List.mem_of_getElem? (i := 229) (by decide +kernel), List.mem_of_getElem? (i := 882) (by decide +kernel), List.mem_of_getElem? (i := 883) (by decide +kernel)⟩
def lw_privs_4 : List (MethodName × Nat) := [(⟨"TablePager$Sheet", "noteBits", "()I"⟩, 4), (⟨"TablePager$Table", "sumOfRows", "(III)I"⟩, 13), (⟨"TablePager$History", "remember", "(LTablePager$Table;)V"⟩, 3), (⟨"TablePager$Table", "dropRow", "(I)I"⟩, 13), (⟨"TablePager$Table", "takeRowFromSpans", "(I)I"⟩, 13), (⟨"TablePager$Table", "dropSpan", "(I)V"⟩, 13), (⟨"TablePager$Table", "putHeight", "(II)V"⟩, 13), (⟨"TablePager$Evener", "leastCost", "(LTablePager$Table;)I"⟩, 3), (⟨"TablePager$Evener", "chooseEnd", "(LTablePager$Table;II)V"⟩, 3), (⟨"TablePager$Evener", "costOfSheet", "(LTablePager$Table;I)I"⟩, 3), (⟨"TablePager$Evener", "lastOf", "(LTablePager$Table;I)I"⟩, 3), (⟨"TablePager$Layout", "emptyFromRow", "(LTablePager$Table;I)I"⟩, 4), (⟨"TablePager$Command", "setDigits", "(I)V"⟩, 5), (⟨"TablePager$Command", "runOn", "(LTablePager$Table;LTablePager$Layout;)Z"⟩, 5), (⟨"TablePager$Command", "addsRow", "(LTablePager$Table;)Z"⟩, 5), (⟨"TablePager$Command", "putsAmount", "(LTablePager$Table;)Z"⟩, 5)]
theorem lw_r4 : ∀ q ∈ lw_privs_4, lw_okq q := List.forall_mem_cons.mpr ⟨lw_p48, List.forall_mem_cons.mpr ⟨lw_p49, List.forall_mem_cons.mpr ⟨lw_p50, List.forall_mem_cons.mpr ⟨lw_p51, List.forall_mem_cons.mpr ⟨lw_p52, List.forall_mem_cons.mpr ⟨lw_p53, List.forall_mem_cons.mpr ⟨lw_p54, List.forall_mem_cons.mpr ⟨lw_p55, List.forall_mem_cons.mpr ⟨lw_p56, List.forall_mem_cons.mpr ⟨lw_p57, List.forall_mem_cons.mpr ⟨lw_p58, List.forall_mem_cons.mpr ⟨lw_p59, List.forall_mem_cons.mpr ⟨lw_p60, List.forall_mem_cons.mpr ⟨lw_p61, List.forall_mem_cons.mpr ⟨lw_p62, List.forall_mem_cons.mpr ⟨lw_p63, fun _ h => absurd h List.not_mem_nil⟩⟩⟩⟩⟩⟩⟩⟩⟩⟩⟩⟩⟩⟩⟩⟩
theorem lw_p64 : lw_okq (⟨"TablePager$Command", "firstPair", "()I"⟩, 5) := ⟨⟨by decide +kernel, by decide +kernel⟩, List.mem_of_getElem? (i := 229) (by decide +kernel), List.mem_of_getElem? (i := 886) (by decide +kernel), List.mem_of_getElem? (i := 887) (by decide +kernel)⟩
theorem lw_p65 : lw_okq (⟨"TablePager$Command", "marksRow", "(LTablePager$Table;)Z"⟩, 5) := ⟨⟨by decide +kernel, by decide +kernel⟩, List.mem_of_getElem? (i := 229) (by decide +kernel), List.mem_of_getElem? (i := 893) (by decide +kernel), List.mem_of_getElem? (i := 894) (by decide +kernel)⟩
theorem lw_p66 : lw_okq (⟨"TablePager$Command", "dropsRow", "(LTablePager$Table;)Z"⟩, 5) := ⟨⟨by decide +kernel, by decide +kernel⟩, List.mem_of_getElem? (i := 229) (by decide +kernel), List.mem_of_getElem? (i := 897) (by decide +kernel), List.mem_of_getElem? (i := 898) (by decide +kernel)⟩
theorem lw_p67 : lw_okq (⟨"TablePager$Command", "putsHeight", "(LTablePager$Table;)Z"⟩, 5) := ⟨⟨by decide +kernel, by decide +kernel⟩, List.mem_of_getElem? (i := 229) (by decide +kernel), List.mem_of_getElem? (i := 902) (by decide +kernel), List.mem_of_getElem? (i := 903) (by decide +kernel)⟩
theorem lw_p68 : lw_okq (⟨"TablePager$Command", "holds", "(LTablePager$Table;LTablePager$Layout;)Z"⟩, 5) := ⟨⟨by decide +kernel, by decide +kernel⟩, List.mem_of_getElem? (i := 229) (by decide +kernel), List.mem_of_getElem? (i := 908) (by decide +kernel), List.mem_of_getElem? (i := 909) (by decide +kernel)⟩
theorem lw_p69 : lw_okq (⟨"TablePager$Table", "playRound", "(I)V"⟩, 13) := ⟨⟨by decide +kernel, by decide +kernel⟩, List.mem_of_getElem? (i := 45) (by decide +kernel), List.mem_of_getElem? (i := 928) (by decide +kernel), List.mem_of_getElem? (i := 929) (by decide +kernel)⟩
theorem lw_p70 : lw_okq (⟨"TablePager$Text", "isFull", "()Z"⟩, 3) := ⟨⟨by decide +kernel, by decide +kernel⟩, List.mem_of_getElem? (i := 27) (by decide +kernel), List.mem_of_getElem? (i := 944) (by decide +kernel), List.mem_of_getElem? (i := 945) (by decide +kernel)⟩
theorem lw_p71 : lw_okq (⟨"TablePager$Text", "put", "(C)V"⟩, 3) := ⟨⟨by decide +kernel, by decide +kernel⟩, List.mem_of_getElem? (i := 27) (by decide +kernel), List.mem_of_getElem? (i := 949) (by decide +kernel), List.mem_of_getElem? (i := 950) (by decide +kernel)⟩
theorem lw_p72 : lw_okq (⟨"TablePager$History", "takeBack", "(LTablePager$Table;)V"⟩, 3) := ⟨⟨by decide +kernel, by decide +kernel⟩, List.mem_of_getElem? (i := 133) (by decide +kernel), List.mem_of_getElem? (i := 974) (by decide +kernel), List.mem_of_getElem? (i := 975) (by decide +kernel)⟩
def lw_privs_5 : List (MethodName × Nat) := [(⟨"TablePager$Command", "firstPair", "()I"⟩, 5), (⟨"TablePager$Command", "marksRow", "(LTablePager$Table;)Z"⟩, 5), (⟨"TablePager$Command", "dropsRow", "(LTablePager$Table;)Z"⟩, 5), (⟨"TablePager$Command", "putsHeight", "(LTablePager$Table;)Z"⟩, 5), (⟨"TablePager$Command", "holds", "(LTablePager$Table;LTablePager$Layout;)Z"⟩, 5), (⟨"TablePager$Table", "playRound", "(I)V"⟩, 13), (⟨"TablePager$Text", "isFull", "()Z"⟩, 3), (⟨"TablePager$Text", "put", "(C)V"⟩, 3), (⟨"TablePager$History", "takeBack", "(LTablePager$Table;)V"⟩, 3)]
theorem lw_r5 : ∀ q ∈ lw_privs_5, lw_okq q := List.forall_mem_cons.mpr ⟨lw_p64, List.forall_mem_cons.mpr ⟨lw_p65, List.forall_mem_cons.mpr ⟨lw_p66, List.forall_mem_cons.mpr ⟨lw_p67, List.forall_mem_cons.mpr ⟨lw_p68, List.forall_mem_cons.mpr ⟨lw_p69, List.forall_mem_cons.mpr ⟨lw_p70, List.forall_mem_cons.mpr ⟨lw_p71, List.forall_mem_cons.mpr ⟨lw_p72, fun _ h => absurd h List.not_mem_nil⟩⟩⟩⟩⟩⟩⟩⟩⟩
def lw_privs : List (MethodName × Nat) := lw_privs_1 ++ (lw_privs_2 ++ (lw_privs_3 ++ (lw_privs_4 ++ (lw_privs_5))))
def lw_tbl : List Cond := k2_sels lw_privs ++ tables_1
theorem lw_privs_ok : ∀ q ∈ lw_privs, lw_okq q := by
  show ∀ q ∈ lw_privs_1 ++ (lw_privs_2 ++ (lw_privs_3 ++ (lw_privs_4 ++ (lw_privs_5)))), lw_okq q
  exact List.forall_mem_append.mpr ⟨lw_r1, List.forall_mem_append.mpr ⟨lw_r2, List.forall_mem_append.mpr ⟨lw_r3, List.forall_mem_append.mpr ⟨lw_r4, lw_r5⟩⟩⟩⟩
-- ===== end of PART A; then your names; then what follows =====
end
section
/-! written by wip/p32/gen.py out of the claim's printed texts: classes, fields, methods, where their words lie -/
def am_F0 : u_T := fun k => match k with
  | 0 => ("TablePager", "text", "LTablePager$Text;", true)
  | 1 => ("TablePager", "table", "LTablePager$Table;", true)
  | 2 => ("TablePager", "history", "LTablePager$History;", true)
  | 3 => ("TablePager", "slots", "LTablePager$Slots;", true)
  | 4 => ("TablePager", "layout", "LTablePager$Layout;", true)
  | 5 => ("TablePager", "evener", "LTablePager$Evener;", true)
  | 6 => ("TablePager", "command", "LTablePager$Command;", true)
  | _ => ("TablePager", "scratch", "LTablePager$Table;", true)
def am_F1 : u_T := fun k => match k with
  | 0 => ("TablePager$Command", "kind", "I", false)
  | 1 => ("TablePager$Command", "second", "I", false)
  | 2 => ("TablePager$Command", "third", "I", false)
  | 3 => ("TablePager$Command", "fourth", "I", false)
  | _ => ("TablePager$Command", "fifth", "I", false)
def am_F2 : u_T := fun k => match k with
  | 0 => ("TablePager$Evener", "costs", "[I", true)
  | 1 => ("TablePager$Evener", "ends", "[I", true)
  | _ => ("TablePager$Evener", "sheet", "LTablePager$Sheet;", true)
def am_F3 : u_T := fun k => match k with
  | 0 => ("TablePager$History", "kept", "[LTablePager$Table;", true)
  | 1 => ("TablePager$History", "next", "I", false)
  | _ => ("TablePager$History", "count", "I", false)
def am_F4 : u_T := fun k => match k with
  | 0 => ("TablePager$Layout", "pages", "I", false)
  | 1 => ("TablePager$Layout", "overfull", "I", false)
  | 2 => ("TablePager$Layout", "ends", "[I", true)
  | _ => ("TablePager$Layout", "sheet", "LTablePager$Sheet;", true)
def am_F5 : u_T := fun k => match k with
  | 0 => ("TablePager$Sheet", "names", "I", false)
  | 1 => ("TablePager$Sheet", "notes", "I", false)
  | 2 => ("TablePager$Sheet", "lines", "I", false)
  | _ => ("TablePager$Sheet", "carry", "I", false)
def am_F6 : u_T := fun k => match k with
  | 0 => ("TablePager$Slots", "kept", "[LTablePager$Table;", true)
  | _ => ("TablePager$Slots", "filled", "[Z", true)
def am_F7 : u_T := fun k => match k with
  | 0 => ("TablePager$Table", "columns", "I", false)
  | 1 => ("TablePager$Table", "rows", "I", false)
  | 2 => ("TablePager$Table", "spans", "I", false)
  | 3 => ("TablePager$Table", "pageHeight", "I", false)
  | 4 => ("TablePager$Table", "headingHeight", "I", false)
  | 5 => ("TablePager$Table", "heights", "[I", true)
  | 6 => ("TablePager$Table", "notes", "[I", true)
  | 7 => ("TablePager$Table", "stays", "[Z", true)
  | 8 => ("TablePager$Table", "amounts", "[I", true)
  | 9 => ("TablePager$Table", "firsts", "[I", true)
  | 10 => ("TablePager$Table", "lasts", "[I", true)
  | 11 => ("TablePager$Table", "mayBeCut", "[Z", true)
  | _ => ("TablePager$Table", "noteHeights", "[I", true)
def am_F8 : u_T := fun k => match k with
  | 0 => ("TablePager$Text", "signs", "[C", true)
  | 1 => ("TablePager$Text", "length", "I", false)
  | _ => ("TablePager$Text", "at", "I", false)
def am_F9 : u_T := fun k => match k with
  | 0 => ("TablePager$Text", "signs", "[C", true)
  | 1 => ("TablePager$Text", "length", "I", false)
  | _ => ("TablePager$Text", "at", "I", false)
def am_cN : Nat → String := fun ci => match ci with
  | 0 => "TablePager"
  | 1 => "TablePager$Command"
  | 2 => "TablePager$Evener"
  | 3 => "TablePager$History"
  | 4 => "TablePager$Layout"
  | 5 => "TablePager$Sheet"
  | 6 => "TablePager$Slots"
  | 7 => "TablePager$Table"
  | 8 => "TablePager$Text"
  | _ => "TablePager$Text"
def am_cT : Nat → u_T := fun ci => match ci with
  | 0 => am_F0
  | 1 => am_F1
  | 2 => am_F2
  | 3 => am_F3
  | 4 => am_F4
  | 5 => am_F5
  | 6 => am_F6
  | 7 => am_F7
  | 8 => am_F8
  | _ => am_F9
def am_cn : Nat → Nat := fun ci => match ci with
  | 0 => 8
  | 1 => 5
  | 2 => 3
  | 3 => 3
  | 4 => 4
  | 5 => 4
  | 6 => 2
  | 7 => 13
  | 8 => 3
  | _ => 3
abbrev am_cls : List vw_C := [("TablePager", am_F0, 8), ("TablePager$Command", am_F1, 5), ("TablePager$Evener", am_F2, 3), ("TablePager$History", am_F3, 3), ("TablePager$Layout", am_F4, 4), ("TablePager$Sheet", am_F5, 4), ("TablePager$Slots", am_F6, 2), ("TablePager$Table", am_F7, 13), ("TablePager$Text", am_F8, 3), ("TablePager$Text", am_F9, 3)]
theorem am_cls_at : ∀ ci, ci < 10 → am_cls[ci]? = some (am_cN ci, am_cT ci, am_cn ci) := by
  intro ci h
  match ci, h with
  | 0, _ => rfl
  | 1, _ => rfl
  | 2, _ => rfl
  | 3, _ => rfl
  | 4, _ => rfl
  | 5, _ => rfl
  | 6, _ => rfl
  | 7, _ => rfl
  | 8, _ => rfl
  | 9, _ => rfl
  | k + 10, h => exact absurd h (by omega)
/-- 0 an int, 1 a truth value, 2 a reference -/
def am_fk : Nat → Nat → Nat := fun ci k => match ci with
  | 0 => ([2, 2, 2, 2, 2, 2, 2, 2] : List Nat).getD k 0
  | 1 => ([0, 0, 0, 0, 0] : List Nat).getD k 0
  | 2 => ([2, 2, 2] : List Nat).getD k 0
  | 3 => ([2, 0, 0] : List Nat).getD k 0
  | 4 => ([0, 0, 2, 2] : List Nat).getD k 0
  | 5 => ([0, 0, 0, 0] : List Nat).getD k 0
  | 6 => ([2, 2] : List Nat).getD k 0
  | 7 => ([0, 0, 0, 0, 0, 2, 2, 2, 2, 2, 2, 2, 2] : List Nat).getD k 0
  | 8 => ([2, 0, 0] : List Nat).getD k 0
  | _ => ([2, 0, 0] : List Nat).getD k 0
def am_ty : Nat → Nat → FieldType := fun ci k => (parseFieldDescriptor (am_cT ci k).2.2.1).getD .int
def am_sv (w : Jvm.Cond) : Bool := match w with
  | .fieldLinkNest .. => true
  | .methodLinkNest .. => true
  | .castable .. => true
  | .declares _ => true
  | w => goodWord w
def am_tb : List Jvm.Cond := lw_tbl.filter am_sv
theorem am_tin {w : Jvm.Cond} (i : Nat) (h : lw_tbl[i]? = some w) (h2 : am_sv w = true) : w ∈ am_tb := List.mem_filter.mpr ⟨List.mem_of_getElem? h, h2⟩
theorem am_hin0 : ∀ w ∈ u_ws (am_cN 0) (am_cT 0) (am_cn 0), w ∈ am_tb := by
  have e : u_ws (am_cN 0) (am_cT 0) (am_cn 0) = ([331, 333, 335, 337, 339, 341, 343, 345] : List Nat).filterMap (fun i => lw_tbl[i]?) := by decide +kernel
  have g : (u_ws (am_cN 0) (am_cT 0) (am_cn 0)).all am_sv = true := by decide +kernel
  intro w hw
  refine List.mem_filter.mpr ⟨?_, List.all_eq_true.mp g w hw⟩
  rw [e] at hw
  obtain ⟨i, -, hi⟩ := List.mem_filterMap.mp hw
  exact List.mem_of_getElem? hi
theorem am_hin1 : ∀ w ∈ u_ws (am_cN 1) (am_cT 1) (am_cn 1), w ∈ am_tb := by
  have e : u_ws (am_cN 1) (am_cT 1) (am_cn 1) = ([312, 314, 316, 318, 320] : List Nat).filterMap (fun i => lw_tbl[i]?) := by decide +kernel
  have g : (u_ws (am_cN 1) (am_cT 1) (am_cn 1)).all am_sv = true := by decide +kernel
  intro w hw
  refine List.mem_filter.mpr ⟨?_, List.all_eq_true.mp g w hw⟩
  rw [e] at hw
  obtain ⟨i, -, hi⟩ := List.mem_filterMap.mp hw
  exact List.mem_of_getElem? hi
theorem am_hin2 : ∀ w ∈ u_ws (am_cN 2) (am_cT 2) (am_cn 2), w ∈ am_tb := by
  have e : u_ws (am_cN 2) (am_cT 2) (am_cn 2) = ([294, 296, 298] : List Nat).filterMap (fun i => lw_tbl[i]?) := by decide +kernel
  have g : (u_ws (am_cN 2) (am_cT 2) (am_cn 2)).all am_sv = true := by decide +kernel
  intro w hw
  refine List.mem_filter.mpr ⟨?_, List.all_eq_true.mp g w hw⟩
  rw [e] at hw
  obtain ⟨i, -, hi⟩ := List.mem_filterMap.mp hw
  exact List.mem_of_getElem? hi
theorem am_hin3 : ∀ w ∈ u_ws (am_cN 3) (am_cT 3) (am_cn 3), w ∈ am_tb := by
  have e : u_ws (am_cN 3) (am_cT 3) (am_cn 3) = ([218, 220, 222] : List Nat).filterMap (fun i => lw_tbl[i]?) := by decide +kernel
  have g : (u_ws (am_cN 3) (am_cT 3) (am_cn 3)).all am_sv = true := by decide +kernel
  intro w hw
  refine List.mem_filter.mpr ⟨?_, List.all_eq_true.mp g w hw⟩
  rw [e] at hw
  obtain ⟨i, -, hi⟩ := List.mem_filterMap.mp hw
  exact List.mem_of_getElem? hi
theorem am_hin4 : ∀ w ∈ u_ws (am_cN 4) (am_cT 4) (am_cn 4), w ∈ am_tb := by
  have e : u_ws (am_cN 4) (am_cT 4) (am_cn 4) = ([274, 276, 278, 280] : List Nat).filterMap (fun i => lw_tbl[i]?) := by decide +kernel
  have g : (u_ws (am_cN 4) (am_cT 4) (am_cn 4)).all am_sv = true := by decide +kernel
  intro w hw
  refine List.mem_filter.mpr ⟨?_, List.all_eq_true.mp g w hw⟩
  rw [e] at hw
  obtain ⟨i, -, hi⟩ := List.mem_filterMap.mp hw
  exact List.mem_of_getElem? hi
theorem am_hin5 : ∀ w ∈ u_ws (am_cN 5) (am_cT 5) (am_cn 5), w ∈ am_tb := by
  have e : u_ws (am_cN 5) (am_cT 5) (am_cn 5) = ([257, 259, 261, 263] : List Nat).filterMap (fun i => lw_tbl[i]?) := by decide +kernel
  have g : (u_ws (am_cN 5) (am_cT 5) (am_cn 5)).all am_sv = true := by decide +kernel
  intro w hw
  refine List.mem_filter.mpr ⟨?_, List.all_eq_true.mp g w hw⟩
  rw [e] at hw
  obtain ⟨i, -, hi⟩ := List.mem_filterMap.mp hw
  exact List.mem_of_getElem? hi
theorem am_hin6 : ∀ w ∈ u_ws (am_cN 6) (am_cT 6) (am_cn 6), w ∈ am_tb := by
  have e : u_ws (am_cN 6) (am_cT 6) (am_cn 6) = ([235, 237] : List Nat).filterMap (fun i => lw_tbl[i]?) := by decide +kernel
  have g : (u_ws (am_cN 6) (am_cT 6) (am_cn 6)).all am_sv = true := by decide +kernel
  intro w hw
  refine List.mem_filter.mpr ⟨?_, List.all_eq_true.mp g w hw⟩
  rw [e] at hw
  obtain ⟨i, -, hi⟩ := List.mem_filterMap.mp hw
  exact List.mem_of_getElem? hi
theorem am_hin7 : ∀ w ∈ u_ws (am_cN 7) (am_cT 7) (am_cn 7), w ∈ am_tb := by
  have e : u_ws (am_cN 7) (am_cT 7) (am_cn 7) = ([176, 178, 180, 182, 184, 186, 188, 190, 192, 194, 196, 198, 200] : List Nat).filterMap (fun i => lw_tbl[i]?) := by decide +kernel
  have g : (u_ws (am_cN 7) (am_cT 7) (am_cn 7)).all am_sv = true := by decide +kernel
  intro w hw
  refine List.mem_filter.mpr ⟨?_, List.all_eq_true.mp g w hw⟩
  rw [e] at hw
  obtain ⟨i, -, hi⟩ := List.mem_filterMap.mp hw
  exact List.mem_of_getElem? hi
theorem am_hin8 : ∀ w ∈ u_ws (am_cN 8) (am_cT 8) (am_cn 8), w ∈ am_tb := by
  have e : u_ws (am_cN 8) (am_cT 8) (am_cn 8) = ([109, 111, 113] : List Nat).filterMap (fun i => lw_tbl[i]?) := by decide +kernel
  have g : (u_ws (am_cN 8) (am_cT 8) (am_cn 8)).all am_sv = true := by decide +kernel
  intro w hw
  refine List.mem_filter.mpr ⟨?_, List.all_eq_true.mp g w hw⟩
  rw [e] at hw
  obtain ⟨i, -, hi⟩ := List.mem_filterMap.mp hw
  exact List.mem_of_getElem? hi
theorem am_hin9 : ∀ w ∈ u_ws (am_cN 9) (am_cT 9) (am_cn 9), w ∈ am_tb := by
  have e : u_ws (am_cN 9) (am_cT 9) (am_cn 9) = ([109, 111, 113] : List Nat).filterMap (fun i => lw_tbl[i]?) := by decide +kernel
  have g : (u_ws (am_cN 9) (am_cT 9) (am_cn 9)).all am_sv = true := by decide +kernel
  intro w hw
  refine List.mem_filter.mpr ⟨?_, List.all_eq_true.mp g w hw⟩
  rw [e] at hw
  obtain ⟨i, -, hi⟩ := List.mem_filterMap.mp hw
  exact List.mem_of_getElem? hi
theorem am_hin : ∀ ci, ci < 10 → ∀ w ∈ u_ws (am_cN ci) (am_cT ci) (am_cn ci), w ∈ am_tb := by
  intro ci h
  match ci, h with
  | 0, _ => exact am_hin0
  | 1, _ => exact am_hin1
  | 2, _ => exact am_hin2
  | 3, _ => exact am_hin3
  | 4, _ => exact am_hin4
  | 5, _ => exact am_hin5
  | 6, _ => exact am_hin6
  | 7, _ => exact am_hin7
  | 8, _ => exact am_hin8
  | 9, _ => exact am_hin9
  | k + 10, h => exact absurd h (by omega)
theorem am_hty : ∀ ci, ci < 10 → ∀ k, k < am_cn ci → parseFieldDescriptor (am_cT ci k).2.2.1 = some (am_ty ci k) := by decide +kernel
theorem am_hnm : ∀ ci, ci < 10 → ∀ a, a < am_cn ci → ∀ b, b < am_cn ci → a ≠ b → (am_cT ci a).2.1 ≠ (am_cT ci b).2.1 := by decide +kernel
theorem am_hfk : ∀ ci, ci < 10 → ∀ k, k < am_cn ci → (am_fk ci k = 0 → am_ty ci k = .int ∧ (am_cT ci k).2.2.2 = false) ∧ (am_fk ci k = 1 → am_ty ci k = .boolean ∧ (am_cT ci k).2.2.2 = false) ∧ (am_fk ci k = 2 → (am_ty ci k).isReference = true ∧ (am_cT ci k).2.2.2 = true) ∧ am_fk ci k < 3 := by decide +kernel
theorem am_hdc : ∀ ci, ci < 10 → ∀ k, k < am_cn ci → (am_cT ci k).1 = am_cN ci := by decide +kernel
theorem am_hic : ∀ ci, ci < 10 → Cond.instantiable (am_cN ci) (am_cn ci) ∈ am_tb ∧ Cond.initialized (am_cN ci) ∈ am_tb := by
  intro ci h
  match ci, h with
  | 0, _ => exact ⟨am_tin 92 (by decide +kernel) rfl, am_tin 74 (by decide +kernel) rfl⟩
  | 1, _ => exact ⟨am_tin 302 (by decide +kernel) rfl, am_tin 82 (by decide +kernel) rfl⟩
  | 2, _ => exact ⟨am_tin 284 (by decide +kernel) rfl, am_tin 81 (by decide +kernel) rfl⟩
  | 3, _ => exact ⟨am_tin 206 (by decide +kernel) rfl, am_tin 77 (by decide +kernel) rfl⟩
  | 4, _ => exact ⟨am_tin 241 (by decide +kernel) rfl, am_tin 79 (by decide +kernel) rfl⟩
  | 5, _ => exact ⟨am_tin 247 (by decide +kernel) rfl, am_tin 80 (by decide +kernel) rfl⟩
  | 6, _ => exact ⟨am_tin 226 (by decide +kernel) rfl, am_tin 78 (by decide +kernel) rfl⟩
  | 7, _ => exact ⟨am_tin 118 (by decide +kernel) rfl, am_tin 76 (by decide +kernel) rfl⟩
  | 8, _ => exact ⟨am_tin 100 (by decide +kernel) rfl, am_tin 75 (by decide +kernel) rfl⟩
  | 9, _ => exact ⟨am_tin 100 (by decide +kernel) rfl, am_tin 75 (by decide +kernel) rfl⟩
  | k + 10, h => exact absurd h (by omega)
/-- the sorts of cells: 0 to 9 the objects of the ten classes; from 10 on arrays: their kind (0 int, 1 truth values, 2 signs, 3 long, 4 Tables) and length; 36 the script -/
def am_atl : List Nat := [9, 9, 9, 9, 9, 9, 9, 9, 9, 9, 0, 0, 1, 0, 0, 0, 1, 0, 4, 4, 1, 0, 0, 0, 2, 0, 0, 0, 0, 0, 0, 1, 0, 0, 0, 3, 8]
def am_anl : List Nat := [0, 0, 0, 0, 0, 0, 0, 0, 0, 0, 24, 24, 24, 96, 6, 6, 6, 7, 14, 2, 2, 24, 25, 24, 160, 160, 197, 197, 197, 2758, 394, 2, 24, 25, 24, 1, 0]
def am_at (s : Nat) : Nat := am_atl.getD s 9
def am_an (s : Nat) : Nat := am_anl.getD s 0
def am_aty (t : Nat) : FieldType := match t with
  | 0 => .int
  | 1 => .boolean
  | 2 => .char
  | 3 => .long
  | _ => .object "TablePager$Table"
abbrev y_P_init : Nat := 0
abbrev y_P_append : Nat := 1
abbrev y_P_clearText : Nat := 2
abbrev y_P_errorPosition : Nat := 3
abbrev y_P_load : Nat := 4
abbrev y_P_about : Nat := 5
abbrev y_P_row : Nat := 6
abbrev y_P_amount : Nat := 7
abbrev y_P_span : Nat := 8
abbrev y_P_note : Nat := 9
abbrev y_P_page : Nat := 10
abbrev y_P_brought : Nat := 11
abbrev y_P_carried : Nat := 12
abbrev y_P_richest : Nat := 13
abbrev y_P_addRow : Nat := 14
abbrev y_P_setAmount : Nat := 15
abbrev y_P_keep : Nat := 16
abbrev y_P_removeRow : Nat := 17
abbrev y_P_addSpan : Nat := 18
abbrev y_P_removeSpan : Nat := 19
abbrev y_P_setHeight : Nat := 20
abbrev y_P_undo : Nat := 21
abbrev y_P_heightFor : Nat := 22
abbrev y_P_evenest : Nat := 23
abbrev y_P_evenCut : Nat := 24
abbrev y_P_emptyFrom : Nat := 25
abbrev y_P_runScript : Nat := 26
abbrev y_P_simulate : Nat := 27
abbrev y_P_save : Nat := 28
abbrev y_P_restore : Nat := 29
abbrev y_P_layOut : Nat := 30
abbrev y_P_countPages : Nat := 31
abbrev y_P_requireRow : Nat := 32
abbrev y_P_requireColumn : Nat := 33
abbrev y_P_requireSpan : Nat := 34
abbrev y_P_requirePage : Nat := 35
abbrev y_P_requireSlot : Nat := 36
abbrev y_P_withoutGroups : Nat := 37
abbrev y_P_isIn : Nat := 38
abbrev y_Command_init : Nat := 39
abbrev y_Command_setDigits : Nat := 40
abbrev y_Command_runOn : Nat := 41
abbrev y_Command_holds : Nat := 42
abbrev y_Command_firstPair : Nat := 43
abbrev y_Command_addsRow : Nat := 44
abbrev y_Command_putsAmount : Nat := 45
abbrev y_Command_marksRow : Nat := 46
abbrev y_Command_dropsRow : Nat := 47
abbrev y_Command_putsHeight : Nat := 48
abbrev y_Evener_init : Nat := 49
abbrev y_Evener_leastCost : Nat := 50
abbrev y_Evener_chooseEnd : Nat := 51
abbrev y_Evener_costOfSheet : Nat := 52
abbrev y_Evener_lastOf : Nat := 53
abbrev y_History_init : Nat := 54
abbrev y_History_forget : Nat := 55
abbrev y_History_remember : Nat := 56
abbrev y_History_takeBack : Nat := 57
abbrev y_Layout_init : Nat := 58
abbrev y_Layout_lay : Nat := 59
abbrev y_Layout_lastThatFits : Nat := 60
abbrev y_Layout_firstEnd : Nat := 61
abbrev y_Layout_hasPage : Nat := 62
abbrev y_Layout_firstOf : Nat := 63
abbrev y_Layout_lastOf : Nat := 64
abbrev y_Layout_pageOf : Nat := 65
abbrev y_Layout_pagesOfSpan : Nat := 66
abbrev y_Layout_countCutSpans : Nat := 67
abbrev y_Layout_sheetOf : Nat := 68
abbrev y_Layout_emptyFromRow : Nat := 69
abbrev y_Layout_fill : Nat := 70
abbrev y_Sheet_init : Nat := 71
abbrev y_Sheet_begin : Nat := 72
abbrev y_Sheet_take : Nat := 73
abbrev y_Sheet_needed : Nat := 74
abbrev y_Sheet_noteBits : Nat := 75
abbrev y_Slots_init : Nat := 76
abbrev y_Slots_empty : Nat := 77
abbrev y_Slots_isFilled : Nat := 78
abbrev y_Slots_put : Nat := 79
abbrev y_Slots_copyTo : Nat := 80
abbrev y_Table_init : Nat := 81
abbrev y_Table_makeNew : Nat := 82
abbrev y_Table_copyFrom : Nat := 83
abbrev y_Table_hasRow : Nat := 84
abbrev y_Table_hasColumn : Nat := 85
abbrev y_Table_hasSpan : Nat := 86
abbrev y_Table_isFull : Nat := 87
abbrev y_Table_hasAllSpans : Nat := 88
abbrev y_Table_allowsRow : Nat := 89
abbrev y_Table_allowsHeight : Nat := 90
abbrev y_Table_putHeight : Nat := 91
abbrev y_Table_amountAt : Nat := 92
abbrev y_Table_putAmount : Nat := 93
abbrev y_Table_sumOfRows : Nat := 94
abbrev y_Table_putRow : Nat := 95
abbrev y_Table_dropRow : Nat := 96
abbrev y_Table_takeRowFromSpans : Nat := 97
abbrev y_Table_putSpan : Nat := 98
abbrev y_Table_dropSpan : Nat := 99
abbrev y_Table_cutRows : Nat := 100
abbrev y_Table_endRows : Nat := 101
abbrev y_Table_upTo : Nat := 102
abbrev y_Table_playRound : Nat := 103
abbrev y_Text_init : Nat := 104
abbrev y_Text_isFull : Nat := 105
abbrev y_Text_put : Nat := 106
abbrev y_Text_readInto : Nat := 107
abbrev y_Text_readHead : Nat := 108
abbrev y_Text_readPart : Nat := 109
abbrev y_Text_readRow : Nat := 110
abbrev y_Text_readNote : Nat := 111
abbrev y_Text_readNoteHeight : Nat := 112
abbrev y_Text_readSpan : Nat := 113
abbrev y_Text_takeSign : Nat := 114
abbrev y_Text_takeDigit : Nat := 115
abbrev y_Text_takePair : Nat := 116
abbrev y_L_draw : Nat := 117
abbrev y_L_in : Nat := 118
abbrev y_L_append : Nat := 119
abbrev y_L_load : Nat := 120
abbrev y_L_about : Nat := 121
abbrev y_L_row : Nat := 122
abbrev y_L_amount : Nat := 123
abbrev y_L_span : Nat := 124
abbrev y_L_note : Nat := 125
abbrev y_L_page : Nat := 126
abbrev y_L_brought : Nat := 127
abbrev y_L_carried : Nat := 128
abbrev y_L_richest : Nat := 129
abbrev y_L_addRow : Nat := 130
abbrev y_L_setAmount : Nat := 131
abbrev y_L_keep : Nat := 132
abbrev y_L_removeRow : Nat := 133
abbrev y_L_addSpan : Nat := 134
abbrev y_L_removeSpan : Nat := 135
abbrev y_L_setHeight : Nat := 136
abbrev y_L_undo : Nat := 137
abbrev y_L_heightFor : Nat := 138
abbrev y_L_evenCut : Nat := 139
abbrev y_L_emptyFrom : Nat := 140
abbrev y_L_script : Nat := 141
abbrev y_L_simulate : Nat := 142
abbrev y_L_save : Nat := 143
abbrev y_L_restore : Nat := 144
abbrev y_L_now : Nat := 145
abbrev y_L_errors : Nat := 146
abbrev y_L_kept : Nat := 147
abbrev y_L_follows : Nat := 148
abbrev y_L_o : Nat := 149
abbrev y_L_alike : Nat := 150
abbrev y_L_says : Nat := 151
abbrev y_L_tells : Nat := 152
abbrev y_L_act : Nat := 153
abbrev y_L_law : Nat := 154
abbrev am_law : Nat := 154
def am_mY_0 : List MethodName := [⟨"TablePager", "<init>", "()V"⟩, ⟨"TablePager", "append", "(I)I"⟩, ⟨"TablePager", "clearText", "()I"⟩, ⟨"TablePager", "errorPosition", "()I"⟩, ⟨"TablePager", "load", "()I"⟩, ⟨"TablePager", "about", "(I)I"⟩, ⟨"TablePager", "row", "(II)I"⟩, ⟨"TablePager", "amount", "(II)I"⟩, ⟨"TablePager", "span", "(II)I"⟩, ⟨"TablePager", "note", "(I)I"⟩, ⟨"TablePager", "page", "(II)I"⟩, ⟨"TablePager", "brought", "(II)I"⟩, ⟨"TablePager", "carried", "(II)I"⟩, ⟨"TablePager", "richest", "(I)I"⟩, ⟨"TablePager", "addRow", "(II)I"⟩, ⟨"TablePager", "setAmount", "(III)I"⟩, ⟨"TablePager", "keep", "(IZ)I"⟩, ⟨"TablePager", "removeRow", "(I)I"⟩, ⟨"TablePager", "addSpan", "(IIZ)I"⟩, ⟨"TablePager", "removeSpan", "(I)I"⟩, ⟨"TablePager", "setHeight", "(II)I"⟩, ⟨"TablePager", "undo", "()I"⟩, ⟨"TablePager", "heightFor", "(I)I"⟩, ⟨"TablePager", "evenest", "()I"⟩, ⟨"TablePager", "evenCut", "(I)I"⟩, ⟨"TablePager", "emptyFrom", "(I)I"⟩, ⟨"TablePager", "runScript", "(IJ)I"⟩, ⟨"TablePager", "simulate", "(JI)I"⟩, ⟨"TablePager", "save", "(I)I"⟩, ⟨"TablePager", "restore", "(I)I"⟩, ⟨"TablePager", "layOut", "()V"⟩, ⟨"TablePager", "countPages", "()I"⟩]
def am_mY_1 : List MethodName := [⟨"TablePager", "requireRow", "(I)V"⟩, ⟨"TablePager", "requireColumn", "(I)V"⟩, ⟨"TablePager", "requireSpan", "(I)V"⟩, ⟨"TablePager", "requirePage", "(I)V"⟩, ⟨"TablePager", "requireSlot", "(I)V"⟩, ⟨"TablePager", "withoutGroups", "(JI)J"⟩, ⟨"TablePager", "isIn", "(II)Z"⟩, ⟨"TablePager$Command", "<init>", "()V"⟩, ⟨"TablePager$Command", "setDigits", "(I)V"⟩, ⟨"TablePager$Command", "runOn", "(LTablePager$Table;LTablePager$Layout;)Z"⟩, ⟨"TablePager$Command", "holds", "(LTablePager$Table;LTablePager$Layout;)Z"⟩, ⟨"TablePager$Command", "firstPair", "()I"⟩, ⟨"TablePager$Command", "addsRow", "(LTablePager$Table;)Z"⟩, ⟨"TablePager$Command", "putsAmount", "(LTablePager$Table;)Z"⟩, ⟨"TablePager$Command", "marksRow", "(LTablePager$Table;)Z"⟩, ⟨"TablePager$Command", "dropsRow", "(LTablePager$Table;)Z"⟩, ⟨"TablePager$Command", "putsHeight", "(LTablePager$Table;)Z"⟩, ⟨"TablePager$Evener", "<init>", "()V"⟩, ⟨"TablePager$Evener", "leastCost", "(LTablePager$Table;)I"⟩, ⟨"TablePager$Evener", "chooseEnd", "(LTablePager$Table;II)V"⟩, ⟨"TablePager$Evener", "costOfSheet", "(LTablePager$Table;I)I"⟩, ⟨"TablePager$Evener", "lastOf", "(LTablePager$Table;I)I"⟩, ⟨"TablePager$History", "<init>", "()V"⟩, ⟨"TablePager$History", "forget", "()V"⟩, ⟨"TablePager$History", "remember", "(LTablePager$Table;)V"⟩, ⟨"TablePager$History", "takeBack", "(LTablePager$Table;)V"⟩, ⟨"TablePager$Layout", "<init>", "()V"⟩, ⟨"TablePager$Layout", "lay", "(LTablePager$Table;I)V"⟩, ⟨"TablePager$Layout", "lastThatFits", "(LTablePager$Table;III)I"⟩, ⟨"TablePager$Layout", "firstEnd", "(II)I"⟩, ⟨"TablePager$Layout", "hasPage", "(I)Z"⟩, ⟨"TablePager$Layout", "firstOf", "(I)I"⟩]
def am_mY_2 : List MethodName := [⟨"TablePager$Layout", "lastOf", "(I)I"⟩, ⟨"TablePager$Layout", "pageOf", "(I)I"⟩, ⟨"TablePager$Layout", "pagesOfSpan", "(LTablePager$Table;I)I"⟩, ⟨"TablePager$Layout", "countCutSpans", "(LTablePager$Table;)I"⟩, ⟨"TablePager$Layout", "sheetOf", "(LTablePager$Table;I)LTablePager$Sheet;"⟩, ⟨"TablePager$Layout", "emptyFromRow", "(LTablePager$Table;I)I"⟩, ⟨"TablePager$Layout", "fill", "(LTablePager$Table;II)V"⟩, ⟨"TablePager$Sheet", "<init>", "()V"⟩, ⟨"TablePager$Sheet", "begin", "(LTablePager$Table;I)V"⟩, ⟨"TablePager$Sheet", "take", "(LTablePager$Table;I)V"⟩, ⟨"TablePager$Sheet", "needed", "()I"⟩, ⟨"TablePager$Sheet", "noteBits", "()I"⟩, ⟨"TablePager$Slots", "<init>", "()V"⟩, ⟨"TablePager$Slots", "empty", "()V"⟩, ⟨"TablePager$Slots", "isFilled", "(I)Z"⟩, ⟨"TablePager$Slots", "put", "(ILTablePager$Table;)V"⟩, ⟨"TablePager$Slots", "copyTo", "(ILTablePager$Table;)V"⟩, ⟨"TablePager$Table", "<init>", "()V"⟩, ⟨"TablePager$Table", "makeNew", "()V"⟩, ⟨"TablePager$Table", "copyFrom", "(LTablePager$Table;)V"⟩, ⟨"TablePager$Table", "hasRow", "(I)Z"⟩, ⟨"TablePager$Table", "hasColumn", "(I)Z"⟩, ⟨"TablePager$Table", "hasSpan", "(I)Z"⟩, ⟨"TablePager$Table", "isFull", "()Z"⟩, ⟨"TablePager$Table", "hasAllSpans", "()Z"⟩, ⟨"TablePager$Table", "allowsRow", "(II)Z"⟩, ⟨"TablePager$Table", "allowsHeight", "(II)Z"⟩, ⟨"TablePager$Table", "putHeight", "(II)V"⟩, ⟨"TablePager$Table", "amountAt", "(II)I"⟩, ⟨"TablePager$Table", "putAmount", "(III)V"⟩, ⟨"TablePager$Table", "sumOfRows", "(III)I"⟩, ⟨"TablePager$Table", "putRow", "(II)V"⟩]
def am_mY_3 : List MethodName := [⟨"TablePager$Table", "dropRow", "(I)I"⟩, ⟨"TablePager$Table", "takeRowFromSpans", "(I)I"⟩, ⟨"TablePager$Table", "putSpan", "(IIZ)V"⟩, ⟨"TablePager$Table", "dropSpan", "(I)V"⟩, ⟨"TablePager$Table", "cutRows", "()I"⟩, ⟨"TablePager$Table", "endRows", "()I"⟩, ⟨"TablePager$Table", "upTo", "(I)I"⟩, ⟨"TablePager$Table", "playRound", "(I)V"⟩, ⟨"TablePager$Text", "<init>", "()V"⟩, ⟨"TablePager$Text", "isFull", "()Z"⟩, ⟨"TablePager$Text", "put", "(C)V"⟩, ⟨"TablePager$Text", "readInto", "(LTablePager$Table;)I"⟩, ⟨"TablePager$Text", "readHead", "(LTablePager$Table;)Z"⟩, ⟨"TablePager$Text", "readPart", "(LTablePager$Table;)Z"⟩, ⟨"TablePager$Text", "readRow", "(LTablePager$Table;)Z"⟩, ⟨"TablePager$Text", "readNote", "(LTablePager$Table;)Z"⟩, ⟨"TablePager$Text", "readNoteHeight", "(LTablePager$Table;)Z"⟩, ⟨"TablePager$Text", "readSpan", "(LTablePager$Table;)Z"⟩, ⟨"TablePager$Text", "takeSign", "(C)Z"⟩, ⟨"TablePager$Text", "takeDigit", "(II)I"⟩, ⟨"TablePager$Text", "takePair", "(II)I"⟩, ⟨"TablePagerLaw", "draw", "([II)I"⟩, ⟨"TablePagerLaw", "in", "(JJJ)Z"⟩, ⟨"TablePagerLaw", "append", "(LTablePager;I)J"⟩, ⟨"TablePagerLaw", "load", "(LTablePager;)J"⟩, ⟨"TablePagerLaw", "about", "(LTablePager;I)J"⟩, ⟨"TablePagerLaw", "row", "(LTablePager;II)J"⟩, ⟨"TablePagerLaw", "amount", "(LTablePager;II)J"⟩, ⟨"TablePagerLaw", "span", "(LTablePager;II)J"⟩, ⟨"TablePagerLaw", "note", "(LTablePager;I)J"⟩, ⟨"TablePagerLaw", "page", "(LTablePager;II)J"⟩, ⟨"TablePagerLaw", "brought", "(LTablePager;II)J"⟩]
def am_mY_4 : List MethodName := [⟨"TablePagerLaw", "carried", "(LTablePager;II)J"⟩, ⟨"TablePagerLaw", "richest", "(LTablePager;I)J"⟩, ⟨"TablePagerLaw", "addRow", "(LTablePager;II)J"⟩, ⟨"TablePagerLaw", "setAmount", "(LTablePager;III)J"⟩, ⟨"TablePagerLaw", "keep", "(LTablePager;IZ)J"⟩, ⟨"TablePagerLaw", "removeRow", "(LTablePager;I)J"⟩, ⟨"TablePagerLaw", "addSpan", "(LTablePager;IIZ)J"⟩, ⟨"TablePagerLaw", "removeSpan", "(LTablePager;I)J"⟩, ⟨"TablePagerLaw", "setHeight", "(LTablePager;II)J"⟩, ⟨"TablePagerLaw", "undo", "(LTablePager;)J"⟩, ⟨"TablePagerLaw", "heightFor", "(LTablePager;I)J"⟩, ⟨"TablePagerLaw", "evenCut", "(LTablePager;I)J"⟩, ⟨"TablePagerLaw", "emptyFrom", "(LTablePager;I)J"⟩, ⟨"TablePagerLaw", "script", "(LTablePager;IJ)J"⟩, ⟨"TablePagerLaw", "simulate", "(LTablePager;JI)J"⟩, ⟨"TablePagerLaw", "save", "(LTablePager;I)J"⟩, ⟨"TablePagerLaw", "restore", "(LTablePager;I)J"⟩, ⟨"TablePagerLaw", "now", "(LTablePager;)J"⟩, ⟨"TablePagerLaw", "errors", "(LTablePager;)Z"⟩, ⟨"TablePagerLaw", "kept", "(LTablePager;)Z"⟩, ⟨"TablePagerLaw", "follows", "(LTablePager;I)Z"⟩, ⟨"TablePagerLaw", "o", "(LTablePager;)J"⟩, ⟨"TablePagerLaw", "alike", "(LTablePager;LTablePager;I)Z"⟩, ⟨"TablePagerLaw", "says", "(LTablePager;I)Z"⟩, ⟨"TablePagerLaw", "tells", "(LTablePager;II)Z"⟩, ⟨"TablePagerLaw", "act", "(LTablePager;II)J"⟩, ⟨"TablePagerLaw", "law", "([I)Z"⟩]
def am_mY (y : Nat) : MethodName := match y / 32 with
  | 0 => am_mY_0.getD (y % 32) ⟨"", "", ""⟩
  | 1 => am_mY_1.getD (y % 32) ⟨"", "", ""⟩
  | 2 => am_mY_2.getD (y % 32) ⟨"", "", ""⟩
  | 3 => am_mY_3.getD (y % 32) ⟨"", "", ""⟩
  | _ => am_mY_4.getD (y % 32) ⟨"", "", ""⟩
def am_mB_0 : List ByteArray := [prog_1_method_1_code, prog_1_method_2_code, prog_1_method_3_code, prog_1_method_4_code, prog_1_method_5_code, prog_1_method_6_code, prog_1_method_7_code, prog_1_method_8_code, prog_1_method_9_code, prog_1_method_10_code, prog_1_method_11_code, prog_1_method_12_code, prog_1_method_13_code, prog_1_method_14_code, prog_1_method_15_code, prog_1_method_16_code, prog_1_method_17_code, prog_1_method_18_code, prog_1_method_19_code, prog_1_method_20_code, prog_1_method_21_code, prog_1_method_22_code, prog_1_method_23_code, prog_1_method_24_code, prog_1_method_25_code, prog_1_method_26_code, prog_1_method_27_code, prog_1_method_28_code, prog_1_method_29_code, prog_1_method_30_code, prog_1_method_31_code, prog_1_method_32_code]
def am_mB_1 : List ByteArray := [prog_1_method_33_code, prog_1_method_34_code, prog_1_method_35_code, prog_1_method_36_code, prog_1_method_37_code, prog_1_method_38_code, prog_1_method_39_code, prog_2_method_1_code, prog_2_method_2_code, prog_2_method_3_code, prog_2_method_4_code, prog_2_method_5_code, prog_2_method_6_code, prog_2_method_7_code, prog_2_method_8_code, prog_2_method_9_code, prog_2_method_10_code, prog_3_method_1_code, prog_3_method_2_code, prog_3_method_3_code, prog_3_method_4_code, prog_3_method_5_code, prog_4_method_1_code, prog_4_method_2_code, prog_4_method_3_code, prog_4_method_4_code, prog_5_method_1_code, prog_5_method_2_code, prog_5_method_3_code, prog_5_method_4_code, prog_5_method_5_code, prog_5_method_6_code]
def am_mB_2 : List ByteArray := [prog_5_method_7_code, prog_5_method_8_code, prog_5_method_9_code, prog_5_method_10_code, prog_5_method_11_code, prog_5_method_12_code, prog_5_method_13_code, prog_6_method_1_code, prog_6_method_2_code, prog_6_method_3_code, prog_6_method_4_code, prog_6_method_5_code, prog_7_method_1_code, prog_7_method_2_code, prog_7_method_3_code, prog_7_method_4_code, prog_7_method_5_code, prog_8_method_1_code, prog_8_method_2_code, prog_8_method_3_code, prog_8_method_4_code, prog_8_method_5_code, prog_8_method_6_code, prog_8_method_7_code, prog_8_method_8_code, prog_8_method_9_code, prog_8_method_10_code, prog_8_method_11_code, prog_8_method_12_code, prog_8_method_13_code, prog_8_method_14_code, prog_8_method_15_code]
def am_mB_3 : List ByteArray := [prog_8_method_16_code, prog_8_method_17_code, prog_8_method_18_code, prog_8_method_19_code, prog_8_method_20_code, prog_8_method_21_code, prog_8_method_22_code, prog_8_method_23_code, prog_9_method_1_code, prog_9_method_2_code, prog_9_method_3_code, prog_9_method_4_code, prog_9_method_5_code, prog_9_method_6_code, prog_9_method_7_code, prog_9_method_8_code, prog_9_method_9_code, prog_9_method_10_code, prog_9_method_11_code, prog_9_method_12_code, prog_9_method_13_code, method_2_code, method_3_code, method_4_code, method_5_code, method_6_code, method_7_code, method_8_code, method_9_code, method_10_code, method_11_code, method_12_code]
def am_mB_4 : List ByteArray := [method_13_code, method_14_code, method_15_code, method_16_code, method_17_code, method_18_code, method_19_code, method_20_code, method_21_code, method_22_code, method_23_code, method_24_code, method_25_code, method_26_code, method_27_code, method_28_code, method_29_code, method_30_code, method_31_code, method_33_code, method_34_code, method_35_code, method_36_code, method_37_code, method_38_code, method_39_code, code]
def am_mB (y : Nat) : ByteArray := match y / 32 with
  | 0 => am_mB_0.getD (y % 32) ⟨#[]⟩
  | 1 => am_mB_1.getD (y % 32) ⟨#[]⟩
  | 2 => am_mB_2.getD (y % 32) ⟨#[]⟩
  | 3 => am_mB_3.getD (y % 32) ⟨#[]⟩
  | _ => am_mB_4.getD (y % 32) ⟨#[]⟩
def am_mL_0 : List Nat := [1, 2, 2, 1, 1, 2, 3, 3, 3, 2, 4, 3, 3, 6, 3, 5, 3, 2, 4, 2, 3, 1, 3, 1, 2, 2, 7, 7, 2, 2, 1, 1]
def am_mL_1 : List Nat := [2, 2, 2, 2, 1, 6, 2, 1, 2, 3, 3, 1, 2, 2, 2, 2, 3, 1, 4, 7, 4, 6, 2, 1, 2, 2, 1, 6, 7, 3, 2, 2]
def am_mL_2 : List Nat := [2, 3, 3, 4, 3, 4, 5, 1, 4, 4, 1, 1, 2, 2, 2, 3, 3, 1, 2, 3, 2, 2, 2, 1, 1, 2, 2, 3, 3, 4, 6, 5]
def am_mL_3 : List Nat := [4, 6, 4, 3, 3, 1, 1, 4, 1, 1, 2, 4, 5, 2, 7, 3, 4, 5, 2, 4, 5, 2, 6, 3, 2, 3, 4, 4, 4, 3, 4, 4]
def am_mL_4 : List Nat := [4, 3, 4, 5, 4, 3, 5, 3, 4, 2, 3, 3, 3, 5, 5, 3, 3, 5, 8, 19, 30, 1, 3, 2, 9, 6, 7]
def am_mL (y : Nat) : Nat := match y / 32 with
  | 0 => am_mL_0.getD (y % 32) 0
  | 1 => am_mL_1.getD (y % 32) 0
  | 2 => am_mL_2.getD (y % 32) 0
  | 3 => am_mL_3.getD (y % 32) 0
  | _ => am_mL_4.getD (y % 32) 0
def am_mR_0 : List (Option FieldType) := [none, some .int, some .int, some .int, some .int, some .int, some .int, some .int, some .int, some .int, some .int, some .int, some .int, some .int, some .int, some .int, some .int, some .int, some .int, some .int, some .int, some .int, some .int, some .int, some .int, some .int, some .int, some .int, some .int, some .int, none, some .int]
def am_mR_1 : List (Option FieldType) := [none, none, none, none, none, some .long, some .boolean, none, none, some .boolean, some .boolean, some .int, some .boolean, some .boolean, some .boolean, some .boolean, some .boolean, none, some .int, none, some .int, some .int, none, none, none, none, none, none, some .int, some .int, some .boolean, some .int]
def am_mR_2 : List (Option FieldType) := [some .int, some .int, some .int, some .int, (some (.object "TablePager$Sheet")), some .int, none, none, none, none, some .int, some .int, none, none, some .boolean, none, none, none, none, none, some .boolean, some .boolean, some .boolean, some .boolean, some .boolean, some .boolean, some .boolean, none, some .int, none, some .int, none]
def am_mR_3 : List (Option FieldType) := [some .int, some .int, none, none, some .int, some .int, some .int, none, none, some .boolean, none, some .int, some .boolean, some .boolean, some .boolean, some .boolean, some .boolean, some .boolean, some .boolean, some .int, some .int, some .int, some .boolean, some .long, some .long, some .long, some .long, some .long, some .long, some .long, some .long, some .long]
def am_mR_4 : List (Option FieldType) := [some .long, some .long, some .long, some .long, some .long, some .long, some .long, some .long, some .long, some .long, some .long, some .long, some .long, some .long, some .long, some .long, some .long, some .long, some .boolean, some .boolean, some .boolean, some .long, some .boolean, some .boolean, some .boolean, some .long, some .boolean]
def am_mR (y : Nat) : Option FieldType := match y / 32 with
  | 0 => am_mR_0.getD (y % 32) none
  | 1 => am_mR_1.getD (y % 32) none
  | 2 => am_mR_2.getD (y % 32) none
  | 3 => am_mR_3.getD (y % 32) none
  | _ => am_mR_4.getD (y % 32) none
def am_mo_0 : List Nat := [0, 0, 0, 0, 0, 0, 0, 0, 0, 0, 0, 0, 0, 0, 0, 0, 0, 0, 0, 0, 0, 0, 0, 0, 0, 0, 0, 0, 0, 0, 0, 0]
def am_mo_1 : List Nat := [0, 0, 0, 0, 0, 0, 0, 0, 0, 0, 0, 0, 0, 0, 0, 0, 0, 0, 0, 0, 0, 0, 0, 0, 0, 0, 0, 0, 0, 0, 0, 0]
def am_mo_2 : List Nat := [0, 0, 0, 0, 0, 0, 0, 0, 0, 0, 0, 0, 0, 0, 0, 0, 0, 0, 0, 0, 0, 0, 0, 0, 0, 0, 0, 0, 0, 0, 0, 0]
def am_mo_3 : List Nat := [0, 0, 0, 0, 0, 0, 0, 0, 0, 0, 0, 0, 0, 0, 0, 0, 0, 0, 0, 0, 0, 0, 0, 1, 1, 1, 1, 1, 1, 1, 1, 1]
def am_mo_4 : List Nat := [1, 1, 1, 1, 1, 1, 1, 1, 1, 1, 1, 1, 1, 1, 1, 1, 1, 0, 0, 0, 0, 0, 0, 0, 0, 0, 2]
def am_mo (y : Nat) : Nat := match y / 32 with
  | 0 => am_mo_0.getD (y % 32) 0
  | 1 => am_mo_1.getD (y % 32) 0
  | 2 => am_mo_2.getD (y % 32) 0
  | 3 => am_mo_3.getD (y % 32) 0
  | _ => am_mo_4.getD (y % 32) 0
def am_mc_0 : List Nat := [177, 1, 0, 0, 1, 1, 2, 2, 2, 1, 2, 2, 2, 1, 1, 3, 1, 1, 3, 1, 1, 1, 1, 0, 1, 1, 1, 1, 1, 2, 0, 0]
def am_mc_1 : List Nat := [1, 1, 1, 1, 1, 0, 0, 0, 0, 0, 0, 0, 0, 0, 0, 0, 0, 3, 0, 0, 0, 0, 127, 0, 0, 0, 2, 0, 0, 0, 0, 0]
def am_mc_2 : List Nat := [0, 0, 0, 0, 0, 0, 0, 0, 0, 0, 0, 0, 20, 0, 0, 0, 0, 8, 0, 0, 0, 0, 0, 0, 0, 0, 0, 0, 0, 0, 0, 0]
def am_mc_3 : List Nat := [0, 0, 0, 0, 0, 0, 0, 0, 1, 0, 0, 0, 0, 0, 0, 0, 0, 0, 0, 0, 0, 0, 0, 1, 1, 1, 2, 2, 2, 1, 2, 2]
def am_mc_4 : List Nat := [2, 1, 1, 3, 1, 1, 3, 1, 1, 1, 1, 1, 1, 1, 1, 1, 2, 700, 1600, 12000, 7000, 0, 1500, 1, 400, 17, 600130]
def am_mc (y : Nat) : Nat := match y / 32 with
  | 0 => am_mc_0.getD (y % 32) 0
  | 1 => am_mc_1.getD (y % 32) 0
  | 2 => am_mc_2.getD (y % 32) 0
  | 3 => am_mc_3.getD (y % 32) 0
  | _ => am_mc_4.getD (y % 32) 0
def am_ms_0 : List Nat := [3987, 6, 0, 0, 6, 6, 12, 12, 12, 6, 12, 12, 12, 6, 6, 18, 6, 6, 18, 6, 6, 6, 6, 0, 6, 6, 6, 6, 6, 12, 0, 0]
def am_ms_1 : List Nat := [6, 6, 6, 6, 6, 0, 0, 0, 0, 0, 0, 0, 0, 0, 0, 0, 0, 53, 0, 0, 0, 0, 2898, 0, 0, 0, 28, 0, 0, 0, 0, 0]
def am_ms_2 : List Nat := [0, 0, 0, 0, 0, 0, 0, 0, 0, 0, 0, 0, 416, 0, 0, 0, 0, 193, 0, 0, 0, 0, 0, 0, 0, 0, 0, 0, 0, 0, 0, 0]
def am_ms_3 : List Nat := [0, 0, 0, 0, 0, 0, 0, 0, 160, 0, 0, 0, 0, 0, 0, 0, 0, 0, 0, 0, 0, 0, 0, 6, 6, 6, 12, 12, 12, 6, 12, 12]
def am_ms_4 : List Nat := [12, 6, 6, 18, 6, 6, 18, 6, 6, 6, 6, 6, 6, 6, 6, 6, 12, 4200, 9600, 72000, 42000, 0, 9000, 6, 2400, 102, 7301080]
def am_ms (y : Nat) : Nat := match y / 32 with
  | 0 => am_ms_0.getD (y % 32) 0
  | 1 => am_ms_1.getD (y % 32) 0
  | 2 => am_ms_2.getD (y % 32) 0
  | 3 => am_ms_3.getD (y % 32) 0
  | _ => am_ms_4.getD (y % 32) 0
def am_np_0 : List Nat := [0, 1, 0, 0, 0, 1, 2, 2, 2, 1, 2, 2, 2, 1, 2, 3, 2, 1, 3, 1, 2, 0, 1, 0, 1, 1, 2, 2, 1, 1, 0, 0]
def am_np_1 : List Nat := [1, 1, 1, 1, 1, 2, 2, 0, 1, 2, 2, 0, 1, 1, 1, 1, 1, 0, 1, 3, 2, 2, 0, 0, 1, 1, 0, 2, 4, 2, 1, 1]
def am_np_2 : List Nat := [1, 1, 2, 1, 2, 2, 3, 0, 2, 2, 0, 0, 0, 0, 1, 2, 2, 0, 0, 1, 1, 1, 1, 0, 0, 2, 2, 2, 2, 3, 3, 2]
def am_np_3 : List Nat := [1, 1, 3, 1, 0, 0, 1, 1, 0, 0, 1, 1, 1, 1, 1, 1, 1, 1, 1, 2, 2, 2, 3, 2, 1, 2, 3, 3, 3, 2, 3, 3]
def am_np_4 : List Nat := [3, 2, 3, 4, 3, 2, 4, 2, 3, 1, 2, 2, 2, 3, 3, 2, 2, 1, 1, 1, 2, 1, 3, 2, 3, 3, 1]
def am_np (y : Nat) : Nat := match y / 32 with
  | 0 => am_np_0.getD (y % 32) 0
  | 1 => am_np_1.getD (y % 32) 0
  | 2 => am_np_2.getD (y % 32) 0
  | 3 => am_np_3.getD (y % 32) 0
  | _ => am_np_4.getD (y % 32) 0
def am_mH_0 : List (List (Nat × Nat × Nat × Nat)) := [[], [], [], [], [], [], [], [], [], [], [], [], [], [], [], [], [], [], [], [], [], [], [], [], [], [], [], [], [], [], [], []]
def am_mH_1 : List (List (Nat × Nat × Nat × Nat)) := [[], [], [], [], [], [], [], [], [], [], [], [], [], [], [], [], [], [], [], [], [], [], [], [], [], [], [], [], [], [], [], []]
def am_mH_2 : List (List (Nat × Nat × Nat × Nat)) := [[], [], [], [], [], [], [], [], [], [], [], [], [], [], [], [], [], [], [], [], [], [], [], [], [], [], [], [], [], [], [], []]
def am_mH_3 : List (List (Nat × Nat × Nat × Nat)) := [[], [], [], [], [], [], [], [], [], [], [], [], [], [], [], [], [], [], [], [], [], [], [], [((0), (6), (7), (15)), ((0), (6), (12), (19))], [((0), (5), (6), (19))], [((0), (6), (7), (15))], [((0), (7), (8), (34)), ((0), (7), (13), (15))], [((0), (7), (8), (34))], [((0), (7), (8), (34)), ((0), (7), (13), (15))], [((0), (6), (7), (15))], [((0), (7), (8), (34)), ((0), (7), (13), (15))], [((0), (7), (8), (34))]]
def am_mH_4 : List (List (Nat × Nat × Nat × Nat)) := [[((0), (7), (8), (34))], [((0), (6), (7), (34))], [((0), (7), (8), (15)), ((0), (7), (13), (19))], [((0), (8), (9), (34)), ((0), (8), (15), (15))], [((0), (7), (8), (34))], [((0), (6), (7), (34))], [((0), (8), (9), (34)), ((0), (8), (15), (15)), ((0), (8), (21), (19))], [((0), (6), (7), (34))], [((0), (7), (8), (15))], [((0), (5), (6), (19))], [((0), (6), (7), (15))], [((0), (6), (7), (15))], [((0), (6), (7), (34))], [((0), (7), (8), (15))], [((0), (7), (8), (15))], [((0), (6), (7), (34))], [((0), (6), (7), (34)), ((0), (6), (12), (19))], [], [], [], [], [], [], [], [], [], []]
def am_mH (y : Nat) : List (Nat × Nat × Nat × Nat) := match y / 32 with
  | 0 => am_mH_0.getD (y % 32) []
  | 1 => am_mH_1.getD (y % 32) []
  | 2 => am_mH_2.getD (y % 32) []
  | 3 => am_mH_3.getD (y % 32) []
  | _ => am_mH_4.getD (y % 32) []
def am_cw (y : Nat) : Jvm.Cond := if am_mo y = 1 then .codeWith (am_mY y) (am_mB y) (am_mL y) (am_mR y) (am_mH y) else .code (am_mY y) (am_mB y) (am_mL y) (am_mR y)
/-- what the tables say of a method -/
def am_cf (y : Nat) : Prop := am_cw y ∈ am_tb ∧ Cond.initialized (am_mY y).cls ∈ am_tb ∧ ((am_mY y).cls ≠ "java/lang/invoke/MethodHandle" ∧ (am_mY y).cls ≠ "java/lang/invoke/VarHandle" ∧ (parseMethodDescriptor (am_mY y).desc).map (fun d => d.parameters.length) = some (am_np y)) ∧ plainName (am_mY y).cls = true ∧ am_mL y ≤ 31
set_option maxRecDepth 100000 in
theorem cf_P_init : am_cf y_P_init := ⟨am_tin 95 (by rfl) (by rfl), am_tin 74 (by decide +kernel) rfl, by decide +kernel, by decide +kernel, by decide +kernel⟩
theorem ci_P_init : Cond.instanceMethod (am_mY y_P_init) ∈ am_tb := am_tin 94 (by decide +kernel) rfl
set_option maxRecDepth 100000 in
theorem cf_P_append : am_cf y_P_append := ⟨am_tin 1014 (by rfl) (by rfl), am_tin 74 (by decide +kernel) rfl, by decide +kernel, by decide +kernel, by decide +kernel⟩
theorem ci_P_append : Cond.instanceMethod (am_mY y_P_append) ∈ am_tb := am_tin 1012 (by decide +kernel) rfl
theorem cv_P_append : Cond.selects (am_mY y_P_append).cls (am_mY y_P_append) (am_mY y_P_append) ∈ am_tb := am_tin 1013 (by decide +kernel) rfl
set_option maxRecDepth 100000 in
theorem cf_P_clearText : am_cf y_P_clearText := ⟨am_tin 1072 (by rfl) (by rfl), am_tin 74 (by decide +kernel) rfl, by decide +kernel, by decide +kernel, by decide +kernel⟩
theorem ci_P_clearText : Cond.instanceMethod (am_mY y_P_clearText) ∈ am_tb := am_tin 1070 (by decide +kernel) rfl
theorem cv_P_clearText : Cond.selects (am_mY y_P_clearText).cls (am_mY y_P_clearText) (am_mY y_P_clearText) ∈ am_tb := am_tin 1071 (by decide +kernel) rfl
set_option maxRecDepth 100000 in
theorem cf_P_errorPosition : am_cf y_P_errorPosition := ⟨am_tin 1064 (by rfl) (by rfl), am_tin 74 (by decide +kernel) rfl, by decide +kernel, by decide +kernel, by decide +kernel⟩
theorem ci_P_errorPosition : Cond.instanceMethod (am_mY y_P_errorPosition) ∈ am_tb := am_tin 1062 (by decide +kernel) rfl
theorem cv_P_errorPosition : Cond.selects (am_mY y_P_errorPosition).cls (am_mY y_P_errorPosition) (am_mY y_P_errorPosition) ∈ am_tb := am_tin 1063 (by decide +kernel) rfl
set_option maxRecDepth 100000 in
theorem cf_P_load : am_cf y_P_load := ⟨am_tin 360 (by rfl) (by rfl), am_tin 74 (by decide +kernel) rfl, by decide +kernel, by decide +kernel, by decide +kernel⟩
theorem ci_P_load : Cond.instanceMethod (am_mY y_P_load) ∈ am_tb := am_tin 358 (by decide +kernel) rfl
theorem cv_P_load : Cond.selects (am_mY y_P_load).cls (am_mY y_P_load) (am_mY y_P_load) ∈ am_tb := am_tin 359 (by decide +kernel) rfl
set_option maxRecDepth 100000 in
theorem cf_P_about : am_cf y_P_about := ⟨am_tin 579 (by rfl) (by rfl), am_tin 74 (by decide +kernel) rfl, by decide +kernel, by decide +kernel, by decide +kernel⟩
theorem ci_P_about : Cond.instanceMethod (am_mY y_P_about) ∈ am_tb := am_tin 577 (by decide +kernel) rfl
theorem cv_P_about : Cond.selects (am_mY y_P_about).cls (am_mY y_P_about) (am_mY y_P_about) ∈ am_tb := am_tin 578 (by decide +kernel) rfl
set_option maxRecDepth 100000 in
theorem cf_P_row : am_cf y_P_row := ⟨am_tin 670 (by rfl) (by rfl), am_tin 74 (by decide +kernel) rfl, by decide +kernel, by decide +kernel, by decide +kernel⟩
theorem ci_P_row : Cond.instanceMethod (am_mY y_P_row) ∈ am_tb := am_tin 668 (by decide +kernel) rfl
theorem cv_P_row : Cond.selects (am_mY y_P_row).cls (am_mY y_P_row) (am_mY y_P_row) ∈ am_tb := am_tin 669 (by decide +kernel) rfl
set_option maxRecDepth 100000 in
theorem cf_P_amount : am_cf y_P_amount := ⟨am_tin 690 (by rfl) (by rfl), am_tin 74 (by decide +kernel) rfl, by decide +kernel, by decide +kernel, by decide +kernel⟩
theorem ci_P_amount : Cond.instanceMethod (am_mY y_P_amount) ∈ am_tb := am_tin 688 (by decide +kernel) rfl
theorem cv_P_amount : Cond.selects (am_mY y_P_amount).cls (am_mY y_P_amount) (am_mY y_P_amount) ∈ am_tb := am_tin 689 (by decide +kernel) rfl
set_option maxRecDepth 100000 in
theorem cf_P_span : am_cf y_P_span := ⟨am_tin 711 (by rfl) (by rfl), am_tin 74 (by decide +kernel) rfl, by decide +kernel, by decide +kernel, by decide +kernel⟩
theorem ci_P_span : Cond.instanceMethod (am_mY y_P_span) ∈ am_tb := am_tin 709 (by decide +kernel) rfl
theorem cv_P_span : Cond.selects (am_mY y_P_span).cls (am_mY y_P_span) (am_mY y_P_span) ∈ am_tb := am_tin 710 (by decide +kernel) rfl
set_option maxRecDepth 100000 in
theorem cf_P_note : am_cf y_P_note := ⟨am_tin 662 (by rfl) (by rfl), am_tin 74 (by decide +kernel) rfl, by decide +kernel, by decide +kernel, by decide +kernel⟩
theorem ci_P_note : Cond.instanceMethod (am_mY y_P_note) ∈ am_tb := am_tin 660 (by decide +kernel) rfl
theorem cv_P_note : Cond.selects (am_mY y_P_note).cls (am_mY y_P_note) (am_mY y_P_note) ∈ am_tb := am_tin 661 (by decide +kernel) rfl
set_option maxRecDepth 100000 in
theorem cf_P_page : am_cf y_P_page := ⟨am_tin 729 (by rfl) (by rfl), am_tin 74 (by decide +kernel) rfl, by decide +kernel, by decide +kernel, by decide +kernel⟩
theorem ci_P_page : Cond.instanceMethod (am_mY y_P_page) ∈ am_tb := am_tin 727 (by decide +kernel) rfl
theorem cv_P_page : Cond.selects (am_mY y_P_page).cls (am_mY y_P_page) (am_mY y_P_page) ∈ am_tb := am_tin 728 (by decide +kernel) rfl
set_option maxRecDepth 100000 in
theorem cf_P_brought : am_cf y_P_brought := ⟨am_tin 769 (by rfl) (by rfl), am_tin 74 (by decide +kernel) rfl, by decide +kernel, by decide +kernel, by decide +kernel⟩
theorem ci_P_brought : Cond.instanceMethod (am_mY y_P_brought) ∈ am_tb := am_tin 767 (by decide +kernel) rfl
theorem cv_P_brought : Cond.selects (am_mY y_P_brought).cls (am_mY y_P_brought) (am_mY y_P_brought) ∈ am_tb := am_tin 768 (by decide +kernel) rfl
set_option maxRecDepth 100000 in
theorem cf_P_carried : am_cf y_P_carried := ⟨am_tin 781 (by rfl) (by rfl), am_tin 74 (by decide +kernel) rfl, by decide +kernel, by decide +kernel, by decide +kernel⟩
theorem ci_P_carried : Cond.instanceMethod (am_mY y_P_carried) ∈ am_tb := am_tin 779 (by decide +kernel) rfl
theorem cv_P_carried : Cond.selects (am_mY y_P_carried).cls (am_mY y_P_carried) (am_mY y_P_carried) ∈ am_tb := am_tin 780 (by decide +kernel) rfl
set_option maxRecDepth 100000 in
theorem cf_P_richest : am_cf y_P_richest := ⟨am_tin 788 (by rfl) (by rfl), am_tin 74 (by decide +kernel) rfl, by decide +kernel, by decide +kernel, by decide +kernel⟩
theorem ci_P_richest : Cond.instanceMethod (am_mY y_P_richest) ∈ am_tb := am_tin 786 (by decide +kernel) rfl
theorem cv_P_richest : Cond.selects (am_mY y_P_richest).cls (am_mY y_P_richest) (am_mY y_P_richest) ∈ am_tb := am_tin 787 (by decide +kernel) rfl
set_option maxRecDepth 100000 in
theorem cf_P_addRow : am_cf y_P_addRow := ⟨am_tin 795 (by rfl) (by rfl), am_tin 74 (by decide +kernel) rfl, by decide +kernel, by decide +kernel, by decide +kernel⟩
theorem ci_P_addRow : Cond.instanceMethod (am_mY y_P_addRow) ∈ am_tb := am_tin 793 (by decide +kernel) rfl
theorem cv_P_addRow : Cond.selects (am_mY y_P_addRow).cls (am_mY y_P_addRow) (am_mY y_P_addRow) ∈ am_tb := am_tin 794 (by decide +kernel) rfl
set_option maxRecDepth 100000 in
theorem cf_P_setAmount : am_cf y_P_setAmount := ⟨am_tin 815 (by rfl) (by rfl), am_tin 74 (by decide +kernel) rfl, by decide +kernel, by decide +kernel, by decide +kernel⟩
theorem ci_P_setAmount : Cond.instanceMethod (am_mY y_P_setAmount) ∈ am_tb := am_tin 813 (by decide +kernel) rfl
theorem cv_P_setAmount : Cond.selects (am_mY y_P_setAmount).cls (am_mY y_P_setAmount) (am_mY y_P_setAmount) ∈ am_tb := am_tin 814 (by decide +kernel) rfl
set_option maxRecDepth 100000 in
theorem cf_P_keep : am_cf y_P_keep := ⟨am_tin 835 (by rfl) (by rfl), am_tin 74 (by decide +kernel) rfl, by decide +kernel, by decide +kernel, by decide +kernel⟩
theorem ci_P_keep : Cond.instanceMethod (am_mY y_P_keep) ∈ am_tb := am_tin 833 (by decide +kernel) rfl
theorem cv_P_keep : Cond.selects (am_mY y_P_keep).cls (am_mY y_P_keep) (am_mY y_P_keep) ∈ am_tb := am_tin 834 (by decide +kernel) rfl
set_option maxRecDepth 100000 in
theorem cf_P_removeRow : am_cf y_P_removeRow := ⟨am_tin 842 (by rfl) (by rfl), am_tin 74 (by decide +kernel) rfl, by decide +kernel, by decide +kernel, by decide +kernel⟩
theorem ci_P_removeRow : Cond.instanceMethod (am_mY y_P_removeRow) ∈ am_tb := am_tin 840 (by decide +kernel) rfl
theorem cv_P_removeRow : Cond.selects (am_mY y_P_removeRow).cls (am_mY y_P_removeRow) (am_mY y_P_removeRow) ∈ am_tb := am_tin 841 (by decide +kernel) rfl
set_option maxRecDepth 100000 in
theorem cf_P_addSpan : am_cf y_P_addSpan := ⟨am_tin 824 (by rfl) (by rfl), am_tin 74 (by decide +kernel) rfl, by decide +kernel, by decide +kernel, by decide +kernel⟩
theorem ci_P_addSpan : Cond.instanceMethod (am_mY y_P_addSpan) ∈ am_tb := am_tin 822 (by decide +kernel) rfl
theorem cv_P_addSpan : Cond.selects (am_mY y_P_addSpan).cls (am_mY y_P_addSpan) (am_mY y_P_addSpan) ∈ am_tb := am_tin 823 (by decide +kernel) rfl
set_option maxRecDepth 100000 in
theorem cf_P_removeSpan : am_cf y_P_removeSpan := ⟨am_tin 858 (by rfl) (by rfl), am_tin 74 (by decide +kernel) rfl, by decide +kernel, by decide +kernel, by decide +kernel⟩
theorem ci_P_removeSpan : Cond.instanceMethod (am_mY y_P_removeSpan) ∈ am_tb := am_tin 856 (by decide +kernel) rfl
theorem cv_P_removeSpan : Cond.selects (am_mY y_P_removeSpan).cls (am_mY y_P_removeSpan) (am_mY y_P_removeSpan) ∈ am_tb := am_tin 857 (by decide +kernel) rfl
set_option maxRecDepth 100000 in
theorem cf_P_setHeight : am_cf y_P_setHeight := ⟨am_tin 869 (by rfl) (by rfl), am_tin 74 (by decide +kernel) rfl, by decide +kernel, by decide +kernel, by decide +kernel⟩
theorem ci_P_setHeight : Cond.instanceMethod (am_mY y_P_setHeight) ∈ am_tb := am_tin 867 (by decide +kernel) rfl
theorem cv_P_setHeight : Cond.selects (am_mY y_P_setHeight).cls (am_mY y_P_setHeight) (am_mY y_P_setHeight) ∈ am_tb := am_tin 868 (by decide +kernel) rfl
set_option maxRecDepth 100000 in
theorem cf_P_undo : am_cf y_P_undo := ⟨am_tin 1044 (by rfl) (by rfl), am_tin 74 (by decide +kernel) rfl, by decide +kernel, by decide +kernel, by decide +kernel⟩
theorem ci_P_undo : Cond.instanceMethod (am_mY y_P_undo) ∈ am_tb := am_tin 1042 (by decide +kernel) rfl
theorem cv_P_undo : Cond.selects (am_mY y_P_undo).cls (am_mY y_P_undo) (am_mY y_P_undo) ∈ am_tb := am_tin 1043 (by decide +kernel) rfl
set_option maxRecDepth 100000 in
theorem cf_P_heightFor : am_cf y_P_heightFor := ⟨am_tin 884 (by rfl) (by rfl), am_tin 74 (by decide +kernel) rfl, by decide +kernel, by decide +kernel, by decide +kernel⟩
theorem ci_P_heightFor : Cond.instanceMethod (am_mY y_P_heightFor) ∈ am_tb := am_tin 882 (by decide +kernel) rfl
theorem cv_P_heightFor : Cond.selects (am_mY y_P_heightFor).cls (am_mY y_P_heightFor) (am_mY y_P_heightFor) ∈ am_tb := am_tin 883 (by decide +kernel) rfl
set_option maxRecDepth 100000 in
theorem cf_P_evenest : am_cf y_P_evenest := ⟨am_tin 1057 (by rfl) (by rfl), am_tin 74 (by decide +kernel) rfl, by decide +kernel, by decide +kernel, by decide +kernel⟩
theorem ci_P_evenest : Cond.instanceMethod (am_mY y_P_evenest) ∈ am_tb := am_tin 1055 (by decide +kernel) rfl
theorem cv_P_evenest : Cond.selects (am_mY y_P_evenest).cls (am_mY y_P_evenest) (am_mY y_P_evenest) ∈ am_tb := am_tin 1056 (by decide +kernel) rfl
set_option maxRecDepth 100000 in
theorem cf_P_evenCut : am_cf y_P_evenCut := ⟨am_tin 892 (by rfl) (by rfl), am_tin 74 (by decide +kernel) rfl, by decide +kernel, by decide +kernel, by decide +kernel⟩
theorem ci_P_evenCut : Cond.instanceMethod (am_mY y_P_evenCut) ∈ am_tb := am_tin 890 (by decide +kernel) rfl
theorem cv_P_evenCut : Cond.selects (am_mY y_P_evenCut).cls (am_mY y_P_evenCut) (am_mY y_P_evenCut) ∈ am_tb := am_tin 891 (by decide +kernel) rfl
set_option maxRecDepth 100000 in
theorem cf_P_emptyFrom : am_cf y_P_emptyFrom := ⟨am_tin 921 (by rfl) (by rfl), am_tin 74 (by decide +kernel) rfl, by decide +kernel, by decide +kernel, by decide +kernel⟩
theorem ci_P_emptyFrom : Cond.instanceMethod (am_mY y_P_emptyFrom) ∈ am_tb := am_tin 919 (by decide +kernel) rfl
theorem cv_P_emptyFrom : Cond.selects (am_mY y_P_emptyFrom).cls (am_mY y_P_emptyFrom) (am_mY y_P_emptyFrom) ∈ am_tb := am_tin 920 (by decide +kernel) rfl
set_option maxRecDepth 100000 in
theorem cf_P_runScript : am_cf y_P_runScript := ⟨am_tin 932 (by rfl) (by rfl), am_tin 74 (by decide +kernel) rfl, by decide +kernel, by decide +kernel, by decide +kernel⟩
theorem ci_P_runScript : Cond.instanceMethod (am_mY y_P_runScript) ∈ am_tb := am_tin 930 (by decide +kernel) rfl
theorem cv_P_runScript : Cond.selects (am_mY y_P_runScript).cls (am_mY y_P_runScript) (am_mY y_P_runScript) ∈ am_tb := am_tin 931 (by decide +kernel) rfl
set_option maxRecDepth 100000 in
theorem cf_P_simulate : am_cf y_P_simulate := ⟨am_tin 996 (by rfl) (by rfl), am_tin 74 (by decide +kernel) rfl, by decide +kernel, by decide +kernel, by decide +kernel⟩
theorem ci_P_simulate : Cond.instanceMethod (am_mY y_P_simulate) ∈ am_tb := am_tin 994 (by decide +kernel) rfl
theorem cv_P_simulate : Cond.selects (am_mY y_P_simulate).cls (am_mY y_P_simulate) (am_mY y_P_simulate) ∈ am_tb := am_tin 995 (by decide +kernel) rfl
set_option maxRecDepth 100000 in
theorem cf_P_save : am_cf y_P_save := ⟨am_tin 522 (by rfl) (by rfl), am_tin 74 (by decide +kernel) rfl, by decide +kernel, by decide +kernel, by decide +kernel⟩
theorem ci_P_save : Cond.instanceMethod (am_mY y_P_save) ∈ am_tb := am_tin 520 (by decide +kernel) rfl
theorem cv_P_save : Cond.selects (am_mY y_P_save).cls (am_mY y_P_save) (am_mY y_P_save) ∈ am_tb := am_tin 521 (by decide +kernel) rfl
set_option maxRecDepth 100000 in
theorem cf_P_restore : am_cf y_P_restore := ⟨am_tin 554 (by rfl) (by rfl), am_tin 74 (by decide +kernel) rfl, by decide +kernel, by decide +kernel, by decide +kernel⟩
theorem ci_P_restore : Cond.instanceMethod (am_mY y_P_restore) ∈ am_tb := am_tin 552 (by decide +kernel) rfl
theorem cv_P_restore : Cond.selects (am_mY y_P_restore).cls (am_mY y_P_restore) (am_mY y_P_restore) ∈ am_tb := am_tin 553 (by decide +kernel) rfl
set_option maxRecDepth 100000 in
theorem cf_P_layOut : am_cf y_P_layOut := ⟨am_tin 587 (by rfl) (by rfl), am_tin 74 (by decide +kernel) rfl, by decide +kernel, by decide +kernel, by decide +kernel⟩
theorem ci_P_layOut : Cond.instanceMethod (am_mY y_P_layOut) ∈ am_tb := am_tin 586 (by decide +kernel) rfl
theorem cv_P_layOut : Cond.selects (am_mY y_P_layOut).cls (am_mY y_P_layOut) (am_mY y_P_layOut) ∈ am_tb := am_tin 24 (by decide +kernel) rfl
set_option maxRecDepth 100000 in
theorem cf_P_countPages : am_cf y_P_countPages := ⟨am_tin 583 (by rfl) (by rfl), am_tin 74 (by decide +kernel) rfl, by decide +kernel, by decide +kernel, by decide +kernel⟩
theorem ci_P_countPages : Cond.instanceMethod (am_mY y_P_countPages) ∈ am_tb := am_tin 582 (by decide +kernel) rfl
theorem cv_P_countPages : Cond.selects (am_mY y_P_countPages).cls (am_mY y_P_countPages) (am_mY y_P_countPages) ∈ am_tb := am_tin 23 (by decide +kernel) rfl
set_option maxRecDepth 100000 in
theorem cf_P_requireRow : am_cf y_P_requireRow := ⟨am_tin 674 (by rfl) (by rfl), am_tin 74 (by decide +kernel) rfl, by decide +kernel, by decide +kernel, by decide +kernel⟩
theorem ci_P_requireRow : Cond.instanceMethod (am_mY y_P_requireRow) ∈ am_tb := am_tin 673 (by decide +kernel) rfl
theorem cv_P_requireRow : Cond.selects (am_mY y_P_requireRow).cls (am_mY y_P_requireRow) (am_mY y_P_requireRow) ∈ am_tb := am_tin 35 (by decide +kernel) rfl
set_option maxRecDepth 100000 in
theorem cf_P_requireColumn : am_cf y_P_requireColumn := ⟨am_tin 694 (by rfl) (by rfl), am_tin 74 (by decide +kernel) rfl, by decide +kernel, by decide +kernel, by decide +kernel⟩
theorem ci_P_requireColumn : Cond.instanceMethod (am_mY y_P_requireColumn) ∈ am_tb := am_tin 693 (by decide +kernel) rfl
theorem cv_P_requireColumn : Cond.selects (am_mY y_P_requireColumn).cls (am_mY y_P_requireColumn) (am_mY y_P_requireColumn) ∈ am_tb := am_tin 37 (by decide +kernel) rfl
set_option maxRecDepth 100000 in
theorem cf_P_requireSpan : am_cf y_P_requireSpan := ⟨am_tin 715 (by rfl) (by rfl), am_tin 74 (by decide +kernel) rfl, by decide +kernel, by decide +kernel, by decide +kernel⟩
theorem ci_P_requireSpan : Cond.instanceMethod (am_mY y_P_requireSpan) ∈ am_tb := am_tin 714 (by decide +kernel) rfl
theorem cv_P_requireSpan : Cond.selects (am_mY y_P_requireSpan).cls (am_mY y_P_requireSpan) (am_mY y_P_requireSpan) ∈ am_tb := am_tin 40 (by decide +kernel) rfl
set_option maxRecDepth 100000 in
theorem cf_P_requirePage : am_cf y_P_requirePage := ⟨am_tin 733 (by rfl) (by rfl), am_tin 74 (by decide +kernel) rfl, by decide +kernel, by decide +kernel, by decide +kernel⟩
theorem ci_P_requirePage : Cond.instanceMethod (am_mY y_P_requirePage) ∈ am_tb := am_tin 732 (by decide +kernel) rfl
theorem cv_P_requirePage : Cond.selects (am_mY y_P_requirePage).cls (am_mY y_P_requirePage) (am_mY y_P_requirePage) ∈ am_tb := am_tin 42 (by decide +kernel) rfl
set_option maxRecDepth 100000 in
theorem cf_P_requireSlot : am_cf y_P_requireSlot := ⟨am_tin 525 (by rfl) (by rfl), am_tin 74 (by decide +kernel) rfl, by decide +kernel, by decide +kernel, by decide +kernel⟩
theorem cs_P_requireSlot : Cond.static (am_mY y_P_requireSlot) ∈ am_tb := am_tin 524 (by decide +kernel) rfl
set_option maxRecDepth 100000 in
theorem cf_P_withoutGroups : am_cf y_P_withoutGroups := ⟨am_tin 936 (by rfl) (by rfl), am_tin 74 (by decide +kernel) rfl, by decide +kernel, by decide +kernel, by decide +kernel⟩
theorem cs_P_withoutGroups : Cond.static (am_mY y_P_withoutGroups) ∈ am_tb := am_tin 935 (by decide +kernel) rfl
set_option maxRecDepth 100000 in
theorem cf_P_isIn : am_cf y_P_isIn := ⟨am_tin 618 (by rfl) (by rfl), am_tin 74 (by decide +kernel) rfl, by decide +kernel, by decide +kernel, by decide +kernel⟩
theorem cs_P_isIn : Cond.static (am_mY y_P_isIn) ∈ am_tb := am_tin 617 (by decide +kernel) rfl
set_option maxRecDepth 100000 in
theorem cf_Command_init : am_cf y_Command_init := ⟨am_tin 305 (by rfl) (by rfl), am_tin 82 (by decide +kernel) rfl, by decide +kernel, by decide +kernel, by decide +kernel⟩
theorem ci_Command_init : Cond.instanceMethod (am_mY y_Command_init) ∈ am_tb := am_tin 304 (by decide +kernel) rfl
set_option maxRecDepth 100000 in
theorem cf_Command_setDigits : am_cf y_Command_setDigits := ⟨am_tin 942 (by rfl) (by rfl), am_tin 82 (by decide +kernel) rfl, by decide +kernel, by decide +kernel, by decide +kernel⟩
theorem ci_Command_setDigits : Cond.instanceMethod (am_mY y_Command_setDigits) ∈ am_tb := am_tin 941 (by decide +kernel) rfl
theorem cv_Command_setDigits : Cond.selects (am_mY y_Command_setDigits).cls (am_mY y_Command_setDigits) (am_mY y_Command_setDigits) ∈ am_tb := am_tin 60 (by decide +kernel) rfl
set_option maxRecDepth 100000 in
theorem cf_Command_runOn : am_cf y_Command_runOn := ⟨am_tin 946 (by rfl) (by rfl), am_tin 82 (by decide +kernel) rfl, by decide +kernel, by decide +kernel, by decide +kernel⟩
theorem ci_Command_runOn : Cond.instanceMethod (am_mY y_Command_runOn) ∈ am_tb := am_tin 945 (by decide +kernel) rfl
theorem cv_Command_runOn : Cond.selects (am_mY y_Command_runOn).cls (am_mY y_Command_runOn) (am_mY y_Command_runOn) ∈ am_tb := am_tin 61 (by decide +kernel) rfl
set_option maxRecDepth 100000 in
theorem cf_Command_holds : am_cf y_Command_holds := ⟨am_tin 983 (by rfl) (by rfl), am_tin 82 (by decide +kernel) rfl, by decide +kernel, by decide +kernel, by decide +kernel⟩
theorem ci_Command_holds : Cond.instanceMethod (am_mY y_Command_holds) ∈ am_tb := am_tin 982 (by decide +kernel) rfl
theorem cv_Command_holds : Cond.selects (am_mY y_Command_holds).cls (am_mY y_Command_holds) (am_mY y_Command_holds) ∈ am_tb := am_tin 68 (by decide +kernel) rfl
set_option maxRecDepth 100000 in
theorem cf_Command_firstPair : am_cf y_Command_firstPair := ⟨am_tin 961 (by rfl) (by rfl), am_tin 82 (by decide +kernel) rfl, by decide +kernel, by decide +kernel, by decide +kernel⟩
theorem ci_Command_firstPair : Cond.instanceMethod (am_mY y_Command_firstPair) ∈ am_tb := am_tin 960 (by decide +kernel) rfl
theorem cv_Command_firstPair : Cond.selects (am_mY y_Command_firstPair).cls (am_mY y_Command_firstPair) (am_mY y_Command_firstPair) ∈ am_tb := am_tin 64 (by decide +kernel) rfl
set_option maxRecDepth 100000 in
theorem cf_Command_addsRow : am_cf y_Command_addsRow := ⟨am_tin 950 (by rfl) (by rfl), am_tin 82 (by decide +kernel) rfl, by decide +kernel, by decide +kernel, by decide +kernel⟩
theorem ci_Command_addsRow : Cond.instanceMethod (am_mY y_Command_addsRow) ∈ am_tb := am_tin 949 (by decide +kernel) rfl
theorem cv_Command_addsRow : Cond.selects (am_mY y_Command_addsRow).cls (am_mY y_Command_addsRow) (am_mY y_Command_addsRow) ∈ am_tb := am_tin 62 (by decide +kernel) rfl
set_option maxRecDepth 100000 in
theorem cf_Command_putsAmount : am_cf y_Command_putsAmount := ⟨am_tin 957 (by rfl) (by rfl), am_tin 82 (by decide +kernel) rfl, by decide +kernel, by decide +kernel, by decide +kernel⟩
theorem ci_Command_putsAmount : Cond.instanceMethod (am_mY y_Command_putsAmount) ∈ am_tb := am_tin 956 (by decide +kernel) rfl
theorem cv_Command_putsAmount : Cond.selects (am_mY y_Command_putsAmount).cls (am_mY y_Command_putsAmount) (am_mY y_Command_putsAmount) ∈ am_tb := am_tin 63 (by decide +kernel) rfl
set_option maxRecDepth 100000 in
theorem cf_Command_marksRow : am_cf y_Command_marksRow := ⟨am_tin 968 (by rfl) (by rfl), am_tin 82 (by decide +kernel) rfl, by decide +kernel, by decide +kernel, by decide +kernel⟩
theorem ci_Command_marksRow : Cond.instanceMethod (am_mY y_Command_marksRow) ∈ am_tb := am_tin 967 (by decide +kernel) rfl
theorem cv_Command_marksRow : Cond.selects (am_mY y_Command_marksRow).cls (am_mY y_Command_marksRow) (am_mY y_Command_marksRow) ∈ am_tb := am_tin 65 (by decide +kernel) rfl
set_option maxRecDepth 100000 in
theorem cf_Command_dropsRow : am_cf y_Command_dropsRow := ⟨am_tin 972 (by rfl) (by rfl), am_tin 82 (by decide +kernel) rfl, by decide +kernel, by decide +kernel, by decide +kernel⟩
theorem ci_Command_dropsRow : Cond.instanceMethod (am_mY y_Command_dropsRow) ∈ am_tb := am_tin 971 (by decide +kernel) rfl
theorem cv_Command_dropsRow : Cond.selects (am_mY y_Command_dropsRow).cls (am_mY y_Command_dropsRow) (am_mY y_Command_dropsRow) ∈ am_tb := am_tin 66 (by decide +kernel) rfl
set_option maxRecDepth 100000 in
theorem cf_Command_putsHeight : am_cf y_Command_putsHeight := ⟨am_tin 977 (by rfl) (by rfl), am_tin 82 (by decide +kernel) rfl, by decide +kernel, by decide +kernel, by decide +kernel⟩
theorem ci_Command_putsHeight : Cond.instanceMethod (am_mY y_Command_putsHeight) ∈ am_tb := am_tin 976 (by decide +kernel) rfl
theorem cv_Command_putsHeight : Cond.selects (am_mY y_Command_putsHeight).cls (am_mY y_Command_putsHeight) (am_mY y_Command_putsHeight) ∈ am_tb := am_tin 67 (by decide +kernel) rfl
set_option maxRecDepth 100000 in
theorem cf_Evener_init : am_cf y_Evener_init := ⟨am_tin 287 (by rfl) (by rfl), am_tin 81 (by decide +kernel) rfl, by decide +kernel, by decide +kernel, by decide +kernel⟩
theorem ci_Evener_init : Cond.instanceMethod (am_mY y_Evener_init) ∈ am_tb := am_tin 286 (by decide +kernel) rfl
set_option maxRecDepth 100000 in
theorem cf_Evener_leastCost : am_cf y_Evener_leastCost := ⟨am_tin 896 (by rfl) (by rfl), am_tin 81 (by decide +kernel) rfl, by decide +kernel, by decide +kernel, by decide +kernel⟩
theorem ci_Evener_leastCost : Cond.instanceMethod (am_mY y_Evener_leastCost) ∈ am_tb := am_tin 895 (by decide +kernel) rfl
theorem cv_Evener_leastCost : Cond.selects (am_mY y_Evener_leastCost).cls (am_mY y_Evener_leastCost) (am_mY y_Evener_leastCost) ∈ am_tb := am_tin 55 (by decide +kernel) rfl
set_option maxRecDepth 100000 in
theorem cf_Evener_chooseEnd : am_cf y_Evener_chooseEnd := ⟨am_tin 901 (by rfl) (by rfl), am_tin 81 (by decide +kernel) rfl, by decide +kernel, by decide +kernel, by decide +kernel⟩
theorem ci_Evener_chooseEnd : Cond.instanceMethod (am_mY y_Evener_chooseEnd) ∈ am_tb := am_tin 900 (by decide +kernel) rfl
theorem cv_Evener_chooseEnd : Cond.selects (am_mY y_Evener_chooseEnd).cls (am_mY y_Evener_chooseEnd) (am_mY y_Evener_chooseEnd) ∈ am_tb := am_tin 56 (by decide +kernel) rfl
set_option maxRecDepth 100000 in
theorem cf_Evener_costOfSheet : am_cf y_Evener_costOfSheet := ⟨am_tin 908 (by rfl) (by rfl), am_tin 81 (by decide +kernel) rfl, by decide +kernel, by decide +kernel, by decide +kernel⟩
theorem ci_Evener_costOfSheet : Cond.instanceMethod (am_mY y_Evener_costOfSheet) ∈ am_tb := am_tin 907 (by decide +kernel) rfl
theorem cv_Evener_costOfSheet : Cond.selects (am_mY y_Evener_costOfSheet).cls (am_mY y_Evener_costOfSheet) (am_mY y_Evener_costOfSheet) ∈ am_tb := am_tin 57 (by decide +kernel) rfl
set_option maxRecDepth 100000 in
theorem cf_Evener_lastOf : am_cf y_Evener_lastOf := ⟨am_tin 913 (by rfl) (by rfl), am_tin 81 (by decide +kernel) rfl, by decide +kernel, by decide +kernel, by decide +kernel⟩
theorem ci_Evener_lastOf : Cond.instanceMethod (am_mY y_Evener_lastOf) ∈ am_tb := am_tin 912 (by decide +kernel) rfl
theorem cv_Evener_lastOf : Cond.selects (am_mY y_Evener_lastOf).cls (am_mY y_Evener_lastOf) (am_mY y_Evener_lastOf) ∈ am_tb := am_tin 58 (by decide +kernel) rfl
set_option maxRecDepth 100000 in
theorem cf_History_init : am_cf y_History_init := ⟨am_tin 209 (by rfl) (by rfl), am_tin 77 (by decide +kernel) rfl, by decide +kernel, by decide +kernel, by decide +kernel⟩
theorem ci_History_init : Cond.instanceMethod (am_mY y_History_init) ∈ am_tb := am_tin 208 (by decide +kernel) rfl
set_option maxRecDepth 100000 in
theorem cf_History_forget : am_cf y_History_forget := ⟨am_tin 509 (by rfl) (by rfl), am_tin 77 (by decide +kernel) rfl, by decide +kernel, by decide +kernel, by decide +kernel⟩
theorem ci_History_forget : Cond.instanceMethod (am_mY y_History_forget) ∈ am_tb := am_tin 508 (by decide +kernel) rfl
theorem cv_History_forget : Cond.selects (am_mY y_History_forget).cls (am_mY y_History_forget) (am_mY y_History_forget) ∈ am_tb := am_tin 18 (by decide +kernel) rfl
set_option maxRecDepth 100000 in
theorem cf_History_remember : am_cf y_History_remember := ⟨am_tin 805 (by rfl) (by rfl), am_tin 77 (by decide +kernel) rfl, by decide +kernel, by decide +kernel, by decide +kernel⟩
theorem ci_History_remember : Cond.instanceMethod (am_mY y_History_remember) ∈ am_tb := am_tin 804 (by decide +kernel) rfl
theorem cv_History_remember : Cond.selects (am_mY y_History_remember).cls (am_mY y_History_remember) (am_mY y_History_remember) ∈ am_tb := am_tin 50 (by decide +kernel) rfl
set_option maxRecDepth 100000 in
theorem cf_History_takeBack : am_cf y_History_takeBack := ⟨am_tin 1049 (by rfl) (by rfl), am_tin 77 (by decide +kernel) rfl, by decide +kernel, by decide +kernel, by decide +kernel⟩
theorem ci_History_takeBack : Cond.instanceMethod (am_mY y_History_takeBack) ∈ am_tb := am_tin 1048 (by decide +kernel) rfl
theorem cv_History_takeBack : Cond.selects (am_mY y_History_takeBack).cls (am_mY y_History_takeBack) (am_mY y_History_takeBack) ∈ am_tb := am_tin 72 (by decide +kernel) rfl
set_option maxRecDepth 100000 in
theorem cf_Layout_init : am_cf y_Layout_init := ⟨am_tin 244 (by rfl) (by rfl), am_tin 79 (by decide +kernel) rfl, by decide +kernel, by decide +kernel, by decide +kernel⟩
theorem ci_Layout_init : Cond.instanceMethod (am_mY y_Layout_init) ∈ am_tb := am_tin 243 (by decide +kernel) rfl
set_option maxRecDepth 100000 in
theorem cf_Layout_lay : am_cf y_Layout_lay := ⟨am_tin 591 (by rfl) (by rfl), am_tin 79 (by decide +kernel) rfl, by decide +kernel, by decide +kernel, by decide +kernel⟩
theorem ci_Layout_lay : Cond.instanceMethod (am_mY y_Layout_lay) ∈ am_tb := am_tin 590 (by decide +kernel) rfl
theorem cv_Layout_lay : Cond.selects (am_mY y_Layout_lay).cls (am_mY y_Layout_lay) (am_mY y_Layout_lay) ∈ am_tb := am_tin 25 (by decide +kernel) rfl
set_option maxRecDepth 100000 in
theorem cf_Layout_lastThatFits : am_cf y_Layout_lastThatFits := ⟨am_tin 606 (by rfl) (by rfl), am_tin 79 (by decide +kernel) rfl, by decide +kernel, by decide +kernel, by decide +kernel⟩
theorem ci_Layout_lastThatFits : Cond.instanceMethod (am_mY y_Layout_lastThatFits) ∈ am_tb := am_tin 605 (by decide +kernel) rfl
theorem cv_Layout_lastThatFits : Cond.selects (am_mY y_Layout_lastThatFits).cls (am_mY y_Layout_lastThatFits) (am_mY y_Layout_lastThatFits) ∈ am_tb := am_tin 28 (by decide +kernel) rfl
set_option maxRecDepth 100000 in
theorem cf_Layout_firstEnd : am_cf y_Layout_firstEnd := ⟨am_tin 626 (by rfl) (by rfl), am_tin 79 (by decide +kernel) rfl, by decide +kernel, by decide +kernel, by decide +kernel⟩
theorem cs_Layout_firstEnd : Cond.static (am_mY y_Layout_firstEnd) ∈ am_tb := am_tin 625 (by decide +kernel) rfl
set_option maxRecDepth 100000 in
theorem cf_Layout_hasPage : am_cf y_Layout_hasPage := ⟨am_tin 737 (by rfl) (by rfl), am_tin 79 (by decide +kernel) rfl, by decide +kernel, by decide +kernel, by decide +kernel⟩
theorem ci_Layout_hasPage : Cond.instanceMethod (am_mY y_Layout_hasPage) ∈ am_tb := am_tin 736 (by decide +kernel) rfl
theorem cv_Layout_hasPage : Cond.selects (am_mY y_Layout_hasPage).cls (am_mY y_Layout_hasPage) (am_mY y_Layout_hasPage) ∈ am_tb := am_tin 43 (by decide +kernel) rfl
set_option maxRecDepth 100000 in
theorem cf_Layout_firstOf : am_cf y_Layout_firstOf := ⟨am_tin 746 (by rfl) (by rfl), am_tin 79 (by decide +kernel) rfl, by decide +kernel, by decide +kernel, by decide +kernel⟩
theorem ci_Layout_firstOf : Cond.instanceMethod (am_mY y_Layout_firstOf) ∈ am_tb := am_tin 745 (by decide +kernel) rfl
theorem cv_Layout_firstOf : Cond.selects (am_mY y_Layout_firstOf).cls (am_mY y_Layout_firstOf) (am_mY y_Layout_firstOf) ∈ am_tb := am_tin 45 (by decide +kernel) rfl
set_option maxRecDepth 100000 in
theorem cf_Layout_lastOf : am_cf y_Layout_lastOf := ⟨am_tin 750 (by rfl) (by rfl), am_tin 79 (by decide +kernel) rfl, by decide +kernel, by decide +kernel, by decide +kernel⟩
theorem ci_Layout_lastOf : Cond.instanceMethod (am_mY y_Layout_lastOf) ∈ am_tb := am_tin 749 (by decide +kernel) rfl
theorem cv_Layout_lastOf : Cond.selects (am_mY y_Layout_lastOf).cls (am_mY y_Layout_lastOf) (am_mY y_Layout_lastOf) ∈ am_tb := am_tin 46 (by decide +kernel) rfl
set_option maxRecDepth 100000 in
theorem cf_Layout_pageOf : am_cf y_Layout_pageOf := ⟨am_tin 638 (by rfl) (by rfl), am_tin 79 (by decide +kernel) rfl, by decide +kernel, by decide +kernel, by decide +kernel⟩
theorem ci_Layout_pageOf : Cond.instanceMethod (am_mY y_Layout_pageOf) ∈ am_tb := am_tin 637 (by decide +kernel) rfl
theorem cv_Layout_pageOf : Cond.selects (am_mY y_Layout_pageOf).cls (am_mY y_Layout_pageOf) (am_mY y_Layout_pageOf) ∈ am_tb := am_tin 34 (by decide +kernel) rfl
set_option maxRecDepth 100000 in
theorem cf_Layout_pagesOfSpan : am_cf y_Layout_pagesOfSpan := ⟨am_tin 634 (by rfl) (by rfl), am_tin 79 (by decide +kernel) rfl, by decide +kernel, by decide +kernel, by decide +kernel⟩
theorem ci_Layout_pagesOfSpan : Cond.instanceMethod (am_mY y_Layout_pagesOfSpan) ∈ am_tb := am_tin 633 (by decide +kernel) rfl
theorem cv_Layout_pagesOfSpan : Cond.selects (am_mY y_Layout_pagesOfSpan).cls (am_mY y_Layout_pagesOfSpan) (am_mY y_Layout_pagesOfSpan) ∈ am_tb := am_tin 33 (by decide +kernel) rfl
set_option maxRecDepth 100000 in
theorem cf_Layout_countCutSpans : am_cf y_Layout_countCutSpans := ⟨am_tin 630 (by rfl) (by rfl), am_tin 79 (by decide +kernel) rfl, by decide +kernel, by decide +kernel, by decide +kernel⟩
theorem ci_Layout_countCutSpans : Cond.instanceMethod (am_mY y_Layout_countCutSpans) ∈ am_tb := am_tin 629 (by decide +kernel) rfl
theorem cv_Layout_countCutSpans : Cond.selects (am_mY y_Layout_countCutSpans).cls (am_mY y_Layout_countCutSpans) (am_mY y_Layout_countCutSpans) ∈ am_tb := am_tin 32 (by decide +kernel) rfl
set_option maxRecDepth 100000 in
theorem cf_Layout_sheetOf : am_cf y_Layout_sheetOf := ⟨am_tin 742 (by rfl) (by rfl), am_tin 79 (by decide +kernel) rfl, by decide +kernel, by decide +kernel, by decide +kernel⟩
theorem ci_Layout_sheetOf : Cond.instanceMethod (am_mY y_Layout_sheetOf) ∈ am_tb := am_tin 741 (by decide +kernel) rfl
theorem cv_Layout_sheetOf : Cond.selects (am_mY y_Layout_sheetOf).cls (am_mY y_Layout_sheetOf) (am_mY y_Layout_sheetOf) ∈ am_tb := am_tin 44 (by decide +kernel) rfl
set_option maxRecDepth 100000 in
theorem cf_Layout_emptyFromRow : am_cf y_Layout_emptyFromRow := ⟨am_tin 925 (by rfl) (by rfl), am_tin 79 (by decide +kernel) rfl, by decide +kernel, by decide +kernel, by decide +kernel⟩
theorem ci_Layout_emptyFromRow : Cond.instanceMethod (am_mY y_Layout_emptyFromRow) ∈ am_tb := am_tin 924 (by decide +kernel) rfl
theorem cv_Layout_emptyFromRow : Cond.selects (am_mY y_Layout_emptyFromRow).cls (am_mY y_Layout_emptyFromRow) (am_mY y_Layout_emptyFromRow) ∈ am_tb := am_tin 59 (by decide +kernel) rfl
set_option maxRecDepth 100000 in
theorem cf_Layout_fill : am_cf y_Layout_fill := ⟨am_tin 754 (by rfl) (by rfl), am_tin 79 (by decide +kernel) rfl, by decide +kernel, by decide +kernel, by decide +kernel⟩
theorem ci_Layout_fill : Cond.instanceMethod (am_mY y_Layout_fill) ∈ am_tb := am_tin 753 (by decide +kernel) rfl
theorem cv_Layout_fill : Cond.selects (am_mY y_Layout_fill).cls (am_mY y_Layout_fill) (am_mY y_Layout_fill) ∈ am_tb := am_tin 47 (by decide +kernel) rfl
set_option maxRecDepth 100000 in
theorem cf_Sheet_init : am_cf y_Sheet_init := ⟨am_tin 250 (by rfl) (by rfl), am_tin 80 (by decide +kernel) rfl, by decide +kernel, by decide +kernel, by decide +kernel⟩
theorem ci_Sheet_init : Cond.instanceMethod (am_mY y_Sheet_init) ∈ am_tb := am_tin 249 (by decide +kernel) rfl
set_option maxRecDepth 100000 in
theorem cf_Sheet_begin : am_cf y_Sheet_begin := ⟨am_tin 611 (by rfl) (by rfl), am_tin 80 (by decide +kernel) rfl, by decide +kernel, by decide +kernel, by decide +kernel⟩
theorem ci_Sheet_begin : Cond.instanceMethod (am_mY y_Sheet_begin) ∈ am_tb := am_tin 610 (by decide +kernel) rfl
theorem cv_Sheet_begin : Cond.selects (am_mY y_Sheet_begin).cls (am_mY y_Sheet_begin) (am_mY y_Sheet_begin) ∈ am_tb := am_tin 29 (by decide +kernel) rfl
set_option maxRecDepth 100000 in
theorem cf_Sheet_take : am_cf y_Sheet_take := ⟨am_tin 615 (by rfl) (by rfl), am_tin 80 (by decide +kernel) rfl, by decide +kernel, by decide +kernel, by decide +kernel⟩
theorem ci_Sheet_take : Cond.instanceMethod (am_mY y_Sheet_take) ∈ am_tb := am_tin 614 (by decide +kernel) rfl
theorem cv_Sheet_take : Cond.selects (am_mY y_Sheet_take).cls (am_mY y_Sheet_take) (am_mY y_Sheet_take) ∈ am_tb := am_tin 30 (by decide +kernel) rfl
set_option maxRecDepth 100000 in
theorem cf_Sheet_needed : am_cf y_Sheet_needed := ⟨am_tin 622 (by rfl) (by rfl), am_tin 80 (by decide +kernel) rfl, by decide +kernel, by decide +kernel, by decide +kernel⟩
theorem ci_Sheet_needed : Cond.instanceMethod (am_mY y_Sheet_needed) ∈ am_tb := am_tin 621 (by decide +kernel) rfl
theorem cv_Sheet_needed : Cond.selects (am_mY y_Sheet_needed).cls (am_mY y_Sheet_needed) (am_mY y_Sheet_needed) ∈ am_tb := am_tin 31 (by decide +kernel) rfl
set_option maxRecDepth 100000 in
theorem cf_Sheet_noteBits : am_cf y_Sheet_noteBits := ⟨am_tin 761 (by rfl) (by rfl), am_tin 80 (by decide +kernel) rfl, by decide +kernel, by decide +kernel, by decide +kernel⟩
theorem ci_Sheet_noteBits : Cond.instanceMethod (am_mY y_Sheet_noteBits) ∈ am_tb := am_tin 760 (by decide +kernel) rfl
theorem cv_Sheet_noteBits : Cond.selects (am_mY y_Sheet_noteBits).cls (am_mY y_Sheet_noteBits) (am_mY y_Sheet_noteBits) ∈ am_tb := am_tin 48 (by decide +kernel) rfl
set_option maxRecDepth 100000 in
theorem cf_Slots_init : am_cf y_Slots_init := ⟨am_tin 229 (by rfl) (by rfl), am_tin 78 (by decide +kernel) rfl, by decide +kernel, by decide +kernel, by decide +kernel⟩
theorem ci_Slots_init : Cond.instanceMethod (am_mY y_Slots_init) ∈ am_tb := am_tin 228 (by decide +kernel) rfl
set_option maxRecDepth 100000 in
theorem cf_Slots_empty : am_cf y_Slots_empty := ⟨am_tin 513 (by rfl) (by rfl), am_tin 78 (by decide +kernel) rfl, by decide +kernel, by decide +kernel, by decide +kernel⟩
theorem ci_Slots_empty : Cond.instanceMethod (am_mY y_Slots_empty) ∈ am_tb := am_tin 512 (by decide +kernel) rfl
theorem cv_Slots_empty : Cond.selects (am_mY y_Slots_empty).cls (am_mY y_Slots_empty) (am_mY y_Slots_empty) ∈ am_tb := am_tin 19 (by decide +kernel) rfl
set_option maxRecDepth 100000 in
theorem cf_Slots_isFilled : am_cf y_Slots_isFilled := ⟨am_tin 558 (by rfl) (by rfl), am_tin 78 (by decide +kernel) rfl, by decide +kernel, by decide +kernel, by decide +kernel⟩
theorem ci_Slots_isFilled : Cond.instanceMethod (am_mY y_Slots_isFilled) ∈ am_tb := am_tin 557 (by decide +kernel) rfl
theorem cv_Slots_isFilled : Cond.selects (am_mY y_Slots_isFilled).cls (am_mY y_Slots_isFilled) (am_mY y_Slots_isFilled) ∈ am_tb := am_tin 21 (by decide +kernel) rfl
set_option maxRecDepth 100000 in
theorem cf_Slots_put : am_cf y_Slots_put := ⟨am_tin 545 (by rfl) (by rfl), am_tin 78 (by decide +kernel) rfl, by decide +kernel, by decide +kernel, by decide +kernel⟩
theorem ci_Slots_put : Cond.instanceMethod (am_mY y_Slots_put) ∈ am_tb := am_tin 544 (by decide +kernel) rfl
theorem cv_Slots_put : Cond.selects (am_mY y_Slots_put).cls (am_mY y_Slots_put) (am_mY y_Slots_put) ∈ am_tb := am_tin 20 (by decide +kernel) rfl
set_option maxRecDepth 100000 in
theorem cf_Slots_copyTo : am_cf y_Slots_copyTo := ⟨am_tin 563 (by rfl) (by rfl), am_tin 78 (by decide +kernel) rfl, by decide +kernel, by decide +kernel, by decide +kernel⟩
theorem ci_Slots_copyTo : Cond.instanceMethod (am_mY y_Slots_copyTo) ∈ am_tb := am_tin 562 (by decide +kernel) rfl
theorem cv_Slots_copyTo : Cond.selects (am_mY y_Slots_copyTo).cls (am_mY y_Slots_copyTo) (am_mY y_Slots_copyTo) ∈ am_tb := am_tin 22 (by decide +kernel) rfl
set_option maxRecDepth 100000 in
theorem cf_Table_init : am_cf y_Table_init := ⟨am_tin 121 (by rfl) (by rfl), am_tin 76 (by decide +kernel) rfl, by decide +kernel, by decide +kernel, by decide +kernel⟩
theorem ci_Table_init : Cond.instanceMethod (am_mY y_Table_init) ∈ am_tb := am_tin 120 (by decide +kernel) rfl
set_option maxRecDepth 100000 in
theorem cf_Table_makeNew : am_cf y_Table_makeNew := ⟨am_tin 126 (by rfl) (by rfl), am_tin 76 (by decide +kernel) rfl, by decide +kernel, by decide +kernel, by decide +kernel⟩
theorem ci_Table_makeNew : Cond.instanceMethod (am_mY y_Table_makeNew) ∈ am_tb := am_tin 125 (by decide +kernel) rfl
theorem cv_Table_makeNew : Cond.selects (am_mY y_Table_makeNew).cls (am_mY y_Table_makeNew) (am_mY y_Table_makeNew) ∈ am_tb := am_tin 0 (by decide +kernel) rfl
set_option maxRecDepth 100000 in
theorem cf_Table_copyFrom : am_cf y_Table_copyFrom := ⟨am_tin 502 (by rfl) (by rfl), am_tin 76 (by decide +kernel) rfl, by decide +kernel, by decide +kernel, by decide +kernel⟩
theorem ci_Table_copyFrom : Cond.instanceMethod (am_mY y_Table_copyFrom) ∈ am_tb := am_tin 501 (by decide +kernel) rfl
theorem cv_Table_copyFrom : Cond.selects (am_mY y_Table_copyFrom).cls (am_mY y_Table_copyFrom) (am_mY y_Table_copyFrom) ∈ am_tb := am_tin 17 (by decide +kernel) rfl
set_option maxRecDepth 100000 in
theorem cf_Table_hasRow : am_cf y_Table_hasRow := ⟨am_tin 678 (by rfl) (by rfl), am_tin 76 (by decide +kernel) rfl, by decide +kernel, by decide +kernel, by decide +kernel⟩
theorem ci_Table_hasRow : Cond.instanceMethod (am_mY y_Table_hasRow) ∈ am_tb := am_tin 677 (by decide +kernel) rfl
theorem cv_Table_hasRow : Cond.selects (am_mY y_Table_hasRow).cls (am_mY y_Table_hasRow) (am_mY y_Table_hasRow) ∈ am_tb := am_tin 36 (by decide +kernel) rfl
set_option maxRecDepth 100000 in
theorem cf_Table_hasColumn : am_cf y_Table_hasColumn := ⟨am_tin 698 (by rfl) (by rfl), am_tin 76 (by decide +kernel) rfl, by decide +kernel, by decide +kernel, by decide +kernel⟩
theorem ci_Table_hasColumn : Cond.instanceMethod (am_mY y_Table_hasColumn) ∈ am_tb := am_tin 697 (by decide +kernel) rfl
theorem cv_Table_hasColumn : Cond.selects (am_mY y_Table_hasColumn).cls (am_mY y_Table_hasColumn) (am_mY y_Table_hasColumn) ∈ am_tb := am_tin 38 (by decide +kernel) rfl
set_option maxRecDepth 100000 in
theorem cf_Table_hasSpan : am_cf y_Table_hasSpan := ⟨am_tin 719 (by rfl) (by rfl), am_tin 76 (by decide +kernel) rfl, by decide +kernel, by decide +kernel, by decide +kernel⟩
theorem ci_Table_hasSpan : Cond.instanceMethod (am_mY y_Table_hasSpan) ∈ am_tb := am_tin 718 (by decide +kernel) rfl
theorem cv_Table_hasSpan : Cond.selects (am_mY y_Table_hasSpan).cls (am_mY y_Table_hasSpan) (am_mY y_Table_hasSpan) ∈ am_tb := am_tin 41 (by decide +kernel) rfl
set_option maxRecDepth 100000 in
theorem cf_Table_isFull : am_cf y_Table_isFull := ⟨am_tin 395 (by rfl) (by rfl), am_tin 76 (by decide +kernel) rfl, by decide +kernel, by decide +kernel, by decide +kernel⟩
theorem ci_Table_isFull : Cond.instanceMethod (am_mY y_Table_isFull) ∈ am_tb := am_tin 394 (by decide +kernel) rfl
theorem cv_Table_isFull : Cond.selects (am_mY y_Table_isFull).cls (am_mY y_Table_isFull) (am_mY y_Table_isFull) ∈ am_tb := am_tin 7 (by decide +kernel) rfl
set_option maxRecDepth 100000 in
theorem cf_Table_hasAllSpans : am_cf y_Table_hasAllSpans := ⟨am_tin 420 (by rfl) (by rfl), am_tin 76 (by decide +kernel) rfl, by decide +kernel, by decide +kernel, by decide +kernel⟩
theorem ci_Table_hasAllSpans : Cond.instanceMethod (am_mY y_Table_hasAllSpans) ∈ am_tb := am_tin 419 (by decide +kernel) rfl
theorem cv_Table_hasAllSpans : Cond.selects (am_mY y_Table_hasAllSpans).cls (am_mY y_Table_hasAllSpans) (am_mY y_Table_hasAllSpans) ∈ am_tb := am_tin 13 (by decide +kernel) rfl
set_option maxRecDepth 100000 in
theorem cf_Table_allowsRow : am_cf y_Table_allowsRow := ⟨am_tin 798 (by rfl) (by rfl), am_tin 76 (by decide +kernel) rfl, by decide +kernel, by decide +kernel, by decide +kernel⟩
theorem cs_Table_allowsRow : Cond.static (am_mY y_Table_allowsRow) ∈ am_tb := am_tin 797 (by decide +kernel) rfl
set_option maxRecDepth 100000 in
theorem cf_Table_allowsHeight : am_cf y_Table_allowsHeight := ⟨am_tin 872 (by rfl) (by rfl), am_tin 76 (by decide +kernel) rfl, by decide +kernel, by decide +kernel, by decide +kernel⟩
theorem cs_Table_allowsHeight : Cond.static (am_mY y_Table_allowsHeight) ∈ am_tb := am_tin 871 (by decide +kernel) rfl
set_option maxRecDepth 100000 in
theorem cf_Table_putHeight : am_cf y_Table_putHeight := ⟨am_tin 877 (by rfl) (by rfl), am_tin 76 (by decide +kernel) rfl, by decide +kernel, by decide +kernel, by decide +kernel⟩
theorem ci_Table_putHeight : Cond.instanceMethod (am_mY y_Table_putHeight) ∈ am_tb := am_tin 876 (by decide +kernel) rfl
theorem cv_Table_putHeight : Cond.selects (am_mY y_Table_putHeight).cls (am_mY y_Table_putHeight) (am_mY y_Table_putHeight) ∈ am_tb := am_tin 54 (by decide +kernel) rfl
set_option maxRecDepth 100000 in
theorem cf_Table_amountAt : am_cf y_Table_amountAt := ⟨am_tin 703 (by rfl) (by rfl), am_tin 76 (by decide +kernel) rfl, by decide +kernel, by decide +kernel, by decide +kernel⟩
theorem ci_Table_amountAt : Cond.instanceMethod (am_mY y_Table_amountAt) ∈ am_tb := am_tin 702 (by decide +kernel) rfl
theorem cv_Table_amountAt : Cond.selects (am_mY y_Table_amountAt).cls (am_mY y_Table_amountAt) (am_mY y_Table_amountAt) ∈ am_tb := am_tin 39 (by decide +kernel) rfl
set_option maxRecDepth 100000 in
theorem cf_Table_putAmount : am_cf y_Table_putAmount := ⟨am_tin 407 (by rfl) (by rfl), am_tin 76 (by decide +kernel) rfl, by decide +kernel, by decide +kernel, by decide +kernel⟩
theorem ci_Table_putAmount : Cond.instanceMethod (am_mY y_Table_putAmount) ∈ am_tb := am_tin 406 (by decide +kernel) rfl
theorem cv_Table_putAmount : Cond.selects (am_mY y_Table_putAmount).cls (am_mY y_Table_putAmount) (am_mY y_Table_putAmount) ∈ am_tb := am_tin 10 (by decide +kernel) rfl
set_option maxRecDepth 100000 in
theorem cf_Table_sumOfRows : am_cf y_Table_sumOfRows := ⟨am_tin 773 (by rfl) (by rfl), am_tin 76 (by decide +kernel) rfl, by decide +kernel, by decide +kernel, by decide +kernel⟩
theorem ci_Table_sumOfRows : Cond.instanceMethod (am_mY y_Table_sumOfRows) ∈ am_tb := am_tin 772 (by decide +kernel) rfl
theorem cv_Table_sumOfRows : Cond.selects (am_mY y_Table_sumOfRows).cls (am_mY y_Table_sumOfRows) (am_mY y_Table_sumOfRows) ∈ am_tb := am_tin 49 (by decide +kernel) rfl
set_option maxRecDepth 100000 in
theorem cf_Table_putRow : am_cf y_Table_putRow := ⟨am_tin 403 (by rfl) (by rfl), am_tin 76 (by decide +kernel) rfl, by decide +kernel, by decide +kernel, by decide +kernel⟩
theorem ci_Table_putRow : Cond.instanceMethod (am_mY y_Table_putRow) ∈ am_tb := am_tin 402 (by decide +kernel) rfl
theorem cv_Table_putRow : Cond.selects (am_mY y_Table_putRow).cls (am_mY y_Table_putRow) (am_mY y_Table_putRow) ∈ am_tb := am_tin 9 (by decide +kernel) rfl
set_option maxRecDepth 100000 in
theorem cf_Table_dropRow : am_cf y_Table_dropRow := ⟨am_tin 846 (by rfl) (by rfl), am_tin 76 (by decide +kernel) rfl, by decide +kernel, by decide +kernel, by decide +kernel⟩
theorem ci_Table_dropRow : Cond.instanceMethod (am_mY y_Table_dropRow) ∈ am_tb := am_tin 845 (by decide +kernel) rfl
theorem cv_Table_dropRow : Cond.selects (am_mY y_Table_dropRow).cls (am_mY y_Table_dropRow) (am_mY y_Table_dropRow) ∈ am_tb := am_tin 51 (by decide +kernel) rfl
set_option maxRecDepth 100000 in
theorem cf_Table_takeRowFromSpans : am_cf y_Table_takeRowFromSpans := ⟨am_tin 850 (by rfl) (by rfl), am_tin 76 (by decide +kernel) rfl, by decide +kernel, by decide +kernel, by decide +kernel⟩
theorem ci_Table_takeRowFromSpans : Cond.instanceMethod (am_mY y_Table_takeRowFromSpans) ∈ am_tb := am_tin 849 (by decide +kernel) rfl
theorem cv_Table_takeRowFromSpans : Cond.selects (am_mY y_Table_takeRowFromSpans).cls (am_mY y_Table_takeRowFromSpans) (am_mY y_Table_takeRowFromSpans) ∈ am_tb := am_tin 52 (by decide +kernel) rfl
set_option maxRecDepth 100000 in
theorem cf_Table_putSpan : am_cf y_Table_putSpan := ⟨am_tin 428 (by rfl) (by rfl), am_tin 76 (by decide +kernel) rfl, by decide +kernel, by decide +kernel, by decide +kernel⟩
theorem ci_Table_putSpan : Cond.instanceMethod (am_mY y_Table_putSpan) ∈ am_tb := am_tin 427 (by decide +kernel) rfl
theorem cv_Table_putSpan : Cond.selects (am_mY y_Table_putSpan).cls (am_mY y_Table_putSpan) (am_mY y_Table_putSpan) ∈ am_tb := am_tin 15 (by decide +kernel) rfl
set_option maxRecDepth 100000 in
theorem cf_Table_dropSpan : am_cf y_Table_dropSpan := ⟨am_tin 862 (by rfl) (by rfl), am_tin 76 (by decide +kernel) rfl, by decide +kernel, by decide +kernel, by decide +kernel⟩
theorem ci_Table_dropSpan : Cond.instanceMethod (am_mY y_Table_dropSpan) ∈ am_tb := am_tin 861 (by decide +kernel) rfl
theorem cv_Table_dropSpan : Cond.selects (am_mY y_Table_dropSpan).cls (am_mY y_Table_dropSpan) (am_mY y_Table_dropSpan) ∈ am_tb := am_tin 53 (by decide +kernel) rfl
set_option maxRecDepth 100000 in
theorem cf_Table_cutRows : am_cf y_Table_cutRows := ⟨am_tin 599 (by rfl) (by rfl), am_tin 76 (by decide +kernel) rfl, by decide +kernel, by decide +kernel, by decide +kernel⟩
theorem ci_Table_cutRows : Cond.instanceMethod (am_mY y_Table_cutRows) ∈ am_tb := am_tin 598 (by decide +kernel) rfl
theorem cv_Table_cutRows : Cond.selects (am_mY y_Table_cutRows).cls (am_mY y_Table_cutRows) (am_mY y_Table_cutRows) ∈ am_tb := am_tin 27 (by decide +kernel) rfl
set_option maxRecDepth 100000 in
theorem cf_Table_endRows : am_cf y_Table_endRows := ⟨am_tin 595 (by rfl) (by rfl), am_tin 76 (by decide +kernel) rfl, by decide +kernel, by decide +kernel, by decide +kernel⟩
theorem ci_Table_endRows : Cond.instanceMethod (am_mY y_Table_endRows) ∈ am_tb := am_tin 594 (by decide +kernel) rfl
theorem cv_Table_endRows : Cond.selects (am_mY y_Table_endRows).cls (am_mY y_Table_endRows) (am_mY y_Table_endRows) ∈ am_tb := am_tin 26 (by decide +kernel) rfl
set_option maxRecDepth 100000 in
theorem cf_Table_upTo : am_cf y_Table_upTo := ⟨am_tin 602 (by rfl) (by rfl), am_tin 76 (by decide +kernel) rfl, by decide +kernel, by decide +kernel, by decide +kernel⟩
theorem cs_Table_upTo : Cond.static (am_mY y_Table_upTo) ∈ am_tb := am_tin 601 (by decide +kernel) rfl
set_option maxRecDepth 100000 in
theorem cf_Table_playRound : am_cf y_Table_playRound := ⟨am_tin 1003 (by rfl) (by rfl), am_tin 76 (by decide +kernel) rfl, by decide +kernel, by decide +kernel, by decide +kernel⟩
theorem ci_Table_playRound : Cond.instanceMethod (am_mY y_Table_playRound) ∈ am_tb := am_tin 1002 (by decide +kernel) rfl
theorem cv_Table_playRound : Cond.selects (am_mY y_Table_playRound).cls (am_mY y_Table_playRound) (am_mY y_Table_playRound) ∈ am_tb := am_tin 69 (by decide +kernel) rfl
set_option maxRecDepth 100000 in
theorem cf_Text_init : am_cf y_Text_init := ⟨am_tin 103 (by rfl) (by rfl), am_tin 75 (by decide +kernel) rfl, by decide +kernel, by decide +kernel, by decide +kernel⟩
theorem ci_Text_init : Cond.instanceMethod (am_mY y_Text_init) ∈ am_tb := am_tin 102 (by decide +kernel) rfl
set_option maxRecDepth 100000 in
theorem cf_Text_isFull : am_cf y_Text_isFull := ⟨am_tin 1019 (by rfl) (by rfl), am_tin 75 (by decide +kernel) rfl, by decide +kernel, by decide +kernel, by decide +kernel⟩
theorem ci_Text_isFull : Cond.instanceMethod (am_mY y_Text_isFull) ∈ am_tb := am_tin 1018 (by decide +kernel) rfl
theorem cv_Text_isFull : Cond.selects (am_mY y_Text_isFull).cls (am_mY y_Text_isFull) (am_mY y_Text_isFull) ∈ am_tb := am_tin 70 (by decide +kernel) rfl
set_option maxRecDepth 100000 in
theorem cf_Text_put : am_cf y_Text_put := ⟨am_tin 1024 (by rfl) (by rfl), am_tin 75 (by decide +kernel) rfl, by decide +kernel, by decide +kernel, by decide +kernel⟩
theorem ci_Text_put : Cond.instanceMethod (am_mY y_Text_put) ∈ am_tb := am_tin 1023 (by decide +kernel) rfl
theorem cv_Text_put : Cond.selects (am_mY y_Text_put).cls (am_mY y_Text_put) (am_mY y_Text_put) ∈ am_tb := am_tin 71 (by decide +kernel) rfl
set_option maxRecDepth 100000 in
theorem cf_Text_readInto : am_cf y_Text_readInto := ⟨am_tin 364 (by rfl) (by rfl), am_tin 75 (by decide +kernel) rfl, by decide +kernel, by decide +kernel, by decide +kernel⟩
theorem ci_Text_readInto : Cond.instanceMethod (am_mY y_Text_readInto) ∈ am_tb := am_tin 363 (by decide +kernel) rfl
theorem cv_Text_readInto : Cond.selects (am_mY y_Text_readInto).cls (am_mY y_Text_readInto) (am_mY y_Text_readInto) ∈ am_tb := am_tin 1 (by decide +kernel) rfl
set_option maxRecDepth 100000 in
theorem cf_Text_readHead : am_cf y_Text_readHead := ⟨am_tin 369 (by rfl) (by rfl), am_tin 75 (by decide +kernel) rfl, by decide +kernel, by decide +kernel, by decide +kernel⟩
theorem ci_Text_readHead : Cond.instanceMethod (am_mY y_Text_readHead) ∈ am_tb := am_tin 368 (by decide +kernel) rfl
theorem cv_Text_readHead : Cond.selects (am_mY y_Text_readHead).cls (am_mY y_Text_readHead) (am_mY y_Text_readHead) ∈ am_tb := am_tin 2 (by decide +kernel) rfl
set_option maxRecDepth 100000 in
theorem cf_Text_readPart : am_cf y_Text_readPart := ⟨am_tin 391 (by rfl) (by rfl), am_tin 75 (by decide +kernel) rfl, by decide +kernel, by decide +kernel, by decide +kernel⟩
theorem ci_Text_readPart : Cond.instanceMethod (am_mY y_Text_readPart) ∈ am_tb := am_tin 390 (by decide +kernel) rfl
theorem cv_Text_readPart : Cond.selects (am_mY y_Text_readPart).cls (am_mY y_Text_readPart) (am_mY y_Text_readPart) ∈ am_tb := am_tin 6 (by decide +kernel) rfl
set_option maxRecDepth 100000 in
theorem cf_Text_readRow : am_cf y_Text_readRow := ⟨am_tin 399 (by rfl) (by rfl), am_tin 75 (by decide +kernel) rfl, by decide +kernel, by decide +kernel, by decide +kernel⟩
theorem ci_Text_readRow : Cond.instanceMethod (am_mY y_Text_readRow) ∈ am_tb := am_tin 398 (by decide +kernel) rfl
theorem cv_Text_readRow : Cond.selects (am_mY y_Text_readRow).cls (am_mY y_Text_readRow) (am_mY y_Text_readRow) ∈ am_tb := am_tin 8 (by decide +kernel) rfl
set_option maxRecDepth 100000 in
theorem cf_Text_readNote : am_cf y_Text_readNote := ⟨am_tin 412 (by rfl) (by rfl), am_tin 75 (by decide +kernel) rfl, by decide +kernel, by decide +kernel, by decide +kernel⟩
theorem ci_Text_readNote : Cond.instanceMethod (am_mY y_Text_readNote) ∈ am_tb := am_tin 411 (by decide +kernel) rfl
theorem cv_Text_readNote : Cond.selects (am_mY y_Text_readNote).cls (am_mY y_Text_readNote) (am_mY y_Text_readNote) ∈ am_tb := am_tin 11 (by decide +kernel) rfl
set_option maxRecDepth 100000 in
theorem cf_Text_readNoteHeight : am_cf y_Text_readNoteHeight := ⟨am_tin 416 (by rfl) (by rfl), am_tin 75 (by decide +kernel) rfl, by decide +kernel, by decide +kernel, by decide +kernel⟩
theorem ci_Text_readNoteHeight : Cond.instanceMethod (am_mY y_Text_readNoteHeight) ∈ am_tb := am_tin 415 (by decide +kernel) rfl
theorem cv_Text_readNoteHeight : Cond.selects (am_mY y_Text_readNoteHeight).cls (am_mY y_Text_readNoteHeight) (am_mY y_Text_readNoteHeight) ∈ am_tb := am_tin 12 (by decide +kernel) rfl
set_option maxRecDepth 100000 in
theorem cf_Text_readSpan : am_cf y_Text_readSpan := ⟨am_tin 424 (by rfl) (by rfl), am_tin 75 (by decide +kernel) rfl, by decide +kernel, by decide +kernel, by decide +kernel⟩
theorem ci_Text_readSpan : Cond.instanceMethod (am_mY y_Text_readSpan) ∈ am_tb := am_tin 423 (by decide +kernel) rfl
theorem cv_Text_readSpan : Cond.selects (am_mY y_Text_readSpan).cls (am_mY y_Text_readSpan) (am_mY y_Text_readSpan) ∈ am_tb := am_tin 14 (by decide +kernel) rfl
set_option maxRecDepth 100000 in
theorem cf_Text_takeSign : am_cf y_Text_takeSign := ⟨am_tin 373 (by rfl) (by rfl), am_tin 75 (by decide +kernel) rfl, by decide +kernel, by decide +kernel, by decide +kernel⟩
theorem ci_Text_takeSign : Cond.instanceMethod (am_mY y_Text_takeSign) ∈ am_tb := am_tin 372 (by decide +kernel) rfl
theorem cv_Text_takeSign : Cond.selects (am_mY y_Text_takeSign).cls (am_mY y_Text_takeSign) (am_mY y_Text_takeSign) ∈ am_tb := am_tin 3 (by decide +kernel) rfl
set_option maxRecDepth 100000 in
theorem cf_Text_takeDigit : am_cf y_Text_takeDigit := ⟨am_tin 377 (by rfl) (by rfl), am_tin 75 (by decide +kernel) rfl, by decide +kernel, by decide +kernel, by decide +kernel⟩
theorem ci_Text_takeDigit : Cond.instanceMethod (am_mY y_Text_takeDigit) ∈ am_tb := am_tin 376 (by decide +kernel) rfl
theorem cv_Text_takeDigit : Cond.selects (am_mY y_Text_takeDigit).cls (am_mY y_Text_takeDigit) (am_mY y_Text_takeDigit) ∈ am_tb := am_tin 4 (by decide +kernel) rfl
set_option maxRecDepth 100000 in
theorem cf_Text_takePair : am_cf y_Text_takePair := ⟨am_tin 381 (by rfl) (by rfl), am_tin 75 (by decide +kernel) rfl, by decide +kernel, by decide +kernel, by decide +kernel⟩
theorem ci_Text_takePair : Cond.instanceMethod (am_mY y_Text_takePair) ∈ am_tb := am_tin 380 (by decide +kernel) rfl
theorem cv_Text_takePair : Cond.selects (am_mY y_Text_takePair).cls (am_mY y_Text_takePair) (am_mY y_Text_takePair) ∈ am_tb := am_tin 5 (by decide +kernel) rfl
set_option maxRecDepth 100000 in
theorem cf_L_draw : am_cf y_L_draw := ⟨am_tin 350 (by rfl) (by rfl), am_tin 73 (by decide +kernel) rfl, by decide +kernel, by decide +kernel, by decide +kernel⟩
theorem cs_L_draw : Cond.static (am_mY y_L_draw) ∈ am_tb := am_tin 349 (by decide +kernel) rfl
set_option maxRecDepth 100000 in
theorem cf_L_in : am_cf y_L_in := ⟨am_tin 1030 (by rfl) (by rfl), am_tin 73 (by decide +kernel) rfl, by decide +kernel, by decide +kernel, by decide +kernel⟩
theorem cs_L_in : Cond.static (am_mY y_L_in) ∈ am_tb := am_tin 1029 (by decide +kernel) rfl
set_option maxRecDepth 100000 in
theorem cf_L_append : am_cf y_L_append := ⟨am_tin 1010 (by rfl) (by rfl), am_tin 73 (by decide +kernel) rfl, by decide +kernel, by decide +kernel, by decide +kernel⟩
theorem cs_L_append : Cond.static (am_mY y_L_append) ∈ am_tb := am_tin 1009 (by decide +kernel) rfl
set_option maxRecDepth 100000 in
theorem cf_L_load : am_cf y_L_load := ⟨am_tin 355 (by rfl) (by rfl), am_tin 73 (by decide +kernel) rfl, by decide +kernel, by decide +kernel, by decide +kernel⟩
theorem cs_L_load : Cond.static (am_mY y_L_load) ∈ am_tb := am_tin 354 (by decide +kernel) rfl
set_option maxRecDepth 100000 in
theorem cf_L_about : am_cf y_L_about := ⟨am_tin 574 (by rfl) (by rfl), am_tin 73 (by decide +kernel) rfl, by decide +kernel, by decide +kernel, by decide +kernel⟩
theorem cs_L_about : Cond.static (am_mY y_L_about) ∈ am_tb := am_tin 573 (by decide +kernel) rfl
set_option maxRecDepth 100000 in
theorem cf_L_row : am_cf y_L_row := ⟨am_tin 666 (by rfl) (by rfl), am_tin 73 (by decide +kernel) rfl, by decide +kernel, by decide +kernel, by decide +kernel⟩
theorem cs_L_row : Cond.static (am_mY y_L_row) ∈ am_tb := am_tin 665 (by decide +kernel) rfl
set_option maxRecDepth 100000 in
theorem cf_L_amount : am_cf y_L_amount := ⟨am_tin 686 (by rfl) (by rfl), am_tin 73 (by decide +kernel) rfl, by decide +kernel, by decide +kernel, by decide +kernel⟩
theorem cs_L_amount : Cond.static (am_mY y_L_amount) ∈ am_tb := am_tin 685 (by decide +kernel) rfl
set_option maxRecDepth 100000 in
theorem cf_L_span : am_cf y_L_span := ⟨am_tin 707 (by rfl) (by rfl), am_tin 73 (by decide +kernel) rfl, by decide +kernel, by decide +kernel, by decide +kernel⟩
theorem cs_L_span : Cond.static (am_mY y_L_span) ∈ am_tb := am_tin 706 (by decide +kernel) rfl
set_option maxRecDepth 100000 in
theorem cf_L_note : am_cf y_L_note := ⟨am_tin 658 (by rfl) (by rfl), am_tin 73 (by decide +kernel) rfl, by decide +kernel, by decide +kernel, by decide +kernel⟩
theorem cs_L_note : Cond.static (am_mY y_L_note) ∈ am_tb := am_tin 657 (by decide +kernel) rfl
set_option maxRecDepth 100000 in
theorem cf_L_page : am_cf y_L_page := ⟨am_tin 725 (by rfl) (by rfl), am_tin 73 (by decide +kernel) rfl, by decide +kernel, by decide +kernel, by decide +kernel⟩
theorem cs_L_page : Cond.static (am_mY y_L_page) ∈ am_tb := am_tin 724 (by decide +kernel) rfl
set_option maxRecDepth 100000 in
theorem cf_L_brought : am_cf y_L_brought := ⟨am_tin 765 (by rfl) (by rfl), am_tin 73 (by decide +kernel) rfl, by decide +kernel, by decide +kernel, by decide +kernel⟩
theorem cs_L_brought : Cond.static (am_mY y_L_brought) ∈ am_tb := am_tin 764 (by decide +kernel) rfl
set_option maxRecDepth 100000 in
theorem cf_L_carried : am_cf y_L_carried := ⟨am_tin 777 (by rfl) (by rfl), am_tin 73 (by decide +kernel) rfl, by decide +kernel, by decide +kernel, by decide +kernel⟩
theorem cs_L_carried : Cond.static (am_mY y_L_carried) ∈ am_tb := am_tin 776 (by decide +kernel) rfl
set_option maxRecDepth 100000 in
theorem cf_L_richest : am_cf y_L_richest := ⟨am_tin 784 (by rfl) (by rfl), am_tin 73 (by decide +kernel) rfl, by decide +kernel, by decide +kernel, by decide +kernel⟩
theorem cs_L_richest : Cond.static (am_mY y_L_richest) ∈ am_tb := am_tin 783 (by decide +kernel) rfl
set_option maxRecDepth 100000 in
theorem cf_L_addRow : am_cf y_L_addRow := ⟨am_tin 791 (by rfl) (by rfl), am_tin 73 (by decide +kernel) rfl, by decide +kernel, by decide +kernel, by decide +kernel⟩
theorem cs_L_addRow : Cond.static (am_mY y_L_addRow) ∈ am_tb := am_tin 790 (by decide +kernel) rfl
set_option maxRecDepth 100000 in
theorem cf_L_setAmount : am_cf y_L_setAmount := ⟨am_tin 811 (by rfl) (by rfl), am_tin 73 (by decide +kernel) rfl, by decide +kernel, by decide +kernel, by decide +kernel⟩
theorem cs_L_setAmount : Cond.static (am_mY y_L_setAmount) ∈ am_tb := am_tin 810 (by decide +kernel) rfl
set_option maxRecDepth 100000 in
theorem cf_L_keep : am_cf y_L_keep := ⟨am_tin 831 (by rfl) (by rfl), am_tin 73 (by decide +kernel) rfl, by decide +kernel, by decide +kernel, by decide +kernel⟩
theorem cs_L_keep : Cond.static (am_mY y_L_keep) ∈ am_tb := am_tin 830 (by decide +kernel) rfl
set_option maxRecDepth 100000 in
theorem cf_L_removeRow : am_cf y_L_removeRow := ⟨am_tin 838 (by rfl) (by rfl), am_tin 73 (by decide +kernel) rfl, by decide +kernel, by decide +kernel, by decide +kernel⟩
theorem cs_L_removeRow : Cond.static (am_mY y_L_removeRow) ∈ am_tb := am_tin 837 (by decide +kernel) rfl
set_option maxRecDepth 100000 in
theorem cf_L_addSpan : am_cf y_L_addSpan := ⟨am_tin 820 (by rfl) (by rfl), am_tin 73 (by decide +kernel) rfl, by decide +kernel, by decide +kernel, by decide +kernel⟩
theorem cs_L_addSpan : Cond.static (am_mY y_L_addSpan) ∈ am_tb := am_tin 819 (by decide +kernel) rfl
set_option maxRecDepth 100000 in
theorem cf_L_removeSpan : am_cf y_L_removeSpan := ⟨am_tin 854 (by rfl) (by rfl), am_tin 73 (by decide +kernel) rfl, by decide +kernel, by decide +kernel, by decide +kernel⟩
theorem cs_L_removeSpan : Cond.static (am_mY y_L_removeSpan) ∈ am_tb := am_tin 853 (by decide +kernel) rfl
set_option maxRecDepth 100000 in
theorem cf_L_setHeight : am_cf y_L_setHeight := ⟨am_tin 865 (by rfl) (by rfl), am_tin 73 (by decide +kernel) rfl, by decide +kernel, by decide +kernel, by decide +kernel⟩
theorem cs_L_setHeight : Cond.static (am_mY y_L_setHeight) ∈ am_tb := am_tin 864 (by decide +kernel) rfl
set_option maxRecDepth 100000 in
theorem cf_L_undo : am_cf y_L_undo := ⟨am_tin 1040 (by rfl) (by rfl), am_tin 73 (by decide +kernel) rfl, by decide +kernel, by decide +kernel, by decide +kernel⟩
theorem cs_L_undo : Cond.static (am_mY y_L_undo) ∈ am_tb := am_tin 1039 (by decide +kernel) rfl
set_option maxRecDepth 100000 in
theorem cf_L_heightFor : am_cf y_L_heightFor := ⟨am_tin 880 (by rfl) (by rfl), am_tin 73 (by decide +kernel) rfl, by decide +kernel, by decide +kernel, by decide +kernel⟩
theorem cs_L_heightFor : Cond.static (am_mY y_L_heightFor) ∈ am_tb := am_tin 879 (by decide +kernel) rfl
set_option maxRecDepth 100000 in
theorem cf_L_evenCut : am_cf y_L_evenCut := ⟨am_tin 888 (by rfl) (by rfl), am_tin 73 (by decide +kernel) rfl, by decide +kernel, by decide +kernel, by decide +kernel⟩
theorem cs_L_evenCut : Cond.static (am_mY y_L_evenCut) ∈ am_tb := am_tin 887 (by decide +kernel) rfl
set_option maxRecDepth 100000 in
theorem cf_L_emptyFrom : am_cf y_L_emptyFrom := ⟨am_tin 917 (by rfl) (by rfl), am_tin 73 (by decide +kernel) rfl, by decide +kernel, by decide +kernel, by decide +kernel⟩
theorem cs_L_emptyFrom : Cond.static (am_mY y_L_emptyFrom) ∈ am_tb := am_tin 916 (by decide +kernel) rfl
set_option maxRecDepth 100000 in
theorem cf_L_script : am_cf y_L_script := ⟨am_tin 928 (by rfl) (by rfl), am_tin 73 (by decide +kernel) rfl, by decide +kernel, by decide +kernel, by decide +kernel⟩
theorem cs_L_script : Cond.static (am_mY y_L_script) ∈ am_tb := am_tin 927 (by decide +kernel) rfl
set_option maxRecDepth 100000 in
theorem cf_L_simulate : am_cf y_L_simulate := ⟨am_tin 992 (by rfl) (by rfl), am_tin 73 (by decide +kernel) rfl, by decide +kernel, by decide +kernel, by decide +kernel⟩
theorem cs_L_simulate : Cond.static (am_mY y_L_simulate) ∈ am_tb := am_tin 991 (by decide +kernel) rfl
set_option maxRecDepth 100000 in
theorem cf_L_save : am_cf y_L_save := ⟨am_tin 517 (by rfl) (by rfl), am_tin 73 (by decide +kernel) rfl, by decide +kernel, by decide +kernel, by decide +kernel⟩
theorem cs_L_save : Cond.static (am_mY y_L_save) ∈ am_tb := am_tin 516 (by decide +kernel) rfl
set_option maxRecDepth 100000 in
theorem cf_L_restore : am_cf y_L_restore := ⟨am_tin 550 (by rfl) (by rfl), am_tin 73 (by decide +kernel) rfl, by decide +kernel, by decide +kernel, by decide +kernel⟩
theorem cs_L_restore : Cond.static (am_mY y_L_restore) ∈ am_tb := am_tin 549 (by decide +kernel) rfl
set_option maxRecDepth 100000 in
theorem cf_L_now : am_cf y_L_now := ⟨am_tin 569 (by rfl) (by rfl), am_tin 73 (by decide +kernel) rfl, by decide +kernel, by decide +kernel, by decide +kernel⟩
theorem cs_L_now : Cond.static (am_mY y_L_now) ∈ am_tb := am_tin 568 (by decide +kernel) rfl
set_option maxRecDepth 100000 in
theorem cf_L_errors : am_cf y_L_errors := ⟨am_tin 566 (by rfl) (by rfl), am_tin 73 (by decide +kernel) rfl, by decide +kernel, by decide +kernel, by decide +kernel⟩
theorem cs_L_errors : Cond.static (am_mY y_L_errors) ∈ am_tb := am_tin 565 (by decide +kernel) rfl
set_option maxRecDepth 100000 in
theorem cf_L_kept : am_cf y_L_kept := ⟨am_tin 1027 (by rfl) (by rfl), am_tin 73 (by decide +kernel) rfl, by decide +kernel, by decide +kernel, by decide +kernel⟩
theorem cs_L_kept : Cond.static (am_mY y_L_kept) ∈ am_tb := am_tin 1026 (by decide +kernel) rfl
set_option maxRecDepth 100000 in
theorem cf_L_follows : am_cf y_L_follows := ⟨am_tin 1035 (by rfl) (by rfl), am_tin 73 (by decide +kernel) rfl, by decide +kernel, by decide +kernel, by decide +kernel⟩
theorem cs_L_follows : Cond.static (am_mY y_L_follows) ∈ am_tb := am_tin 1034 (by decide +kernel) rfl
set_option maxRecDepth 100000 in
theorem cf_L_o : am_cf y_L_o := ⟨am_tin 1053 (by rfl) (by rfl), am_tin 73 (by decide +kernel) rfl, by decide +kernel, by decide +kernel, by decide +kernel⟩
theorem cs_L_o : Cond.static (am_mY y_L_o) ∈ am_tb := am_tin 1052 (by decide +kernel) rfl
set_option maxRecDepth 100000 in
theorem cf_L_alike : am_cf y_L_alike := ⟨am_tin 1060 (by rfl) (by rfl), am_tin 73 (by decide +kernel) rfl, by decide +kernel, by decide +kernel, by decide +kernel⟩
theorem cs_L_alike : Cond.static (am_mY y_L_alike) ∈ am_tb := am_tin 1059 (by decide +kernel) rfl
set_option maxRecDepth 100000 in
theorem cf_L_says : am_cf y_L_says := ⟨am_tin 1075 (by rfl) (by rfl), am_tin 73 (by decide +kernel) rfl, by decide +kernel, by decide +kernel, by decide +kernel⟩
theorem cs_L_says : Cond.static (am_mY y_L_says) ∈ am_tb := am_tin 1074 (by decide +kernel) rfl
set_option maxRecDepth 100000 in
theorem cf_L_tells : am_cf y_L_tells := ⟨am_tin 1068 (by rfl) (by rfl), am_tin 73 (by decide +kernel) rfl, by decide +kernel, by decide +kernel, by decide +kernel⟩
theorem cs_L_tells : Cond.static (am_mY y_L_tells) ∈ am_tb := am_tin 1067 (by decide +kernel) rfl
set_option maxRecDepth 100000 in
theorem cf_L_act : am_cf y_L_act := ⟨am_tin 1079 (by rfl) (by rfl), am_tin 73 (by decide +kernel) rfl, by decide +kernel, by decide +kernel, by decide +kernel⟩
theorem cs_L_act : Cond.static (am_mY y_L_act) ∈ am_tb := am_tin 1078 (by decide +kernel) rfl
def am_str : List (String × Nat × String) := [("TablePager", 90, "the text is not a table"), ("TablePager", 360, "no such save slot"), ("TablePager", 334, "nothing is saved in this slot"), ("TablePager", 130, "no such number of the table"), ("TablePager", 185, "no such note"), ("TablePager", 344, "no such row"), ("TablePager", 158, "no such number of a row"), ("TablePager", 350, "no such column"), ("TablePager", 355, "no such span"), ("TablePager", 183, "no such number of a span"), ("TablePager", 286, "no such page"), ("TablePager", 214, "no such number of a page"), ("TablePager", 226, "no such height or note of a row"), ("TablePager", 229, "there are as many rows as there may be"), ("TablePager", 238, "no such amount"), ("TablePager", 247, "the last row is not behind the first one"), ("TablePager", 252, "there are as many spans as there may be"), ("TablePager", 264, "no such height"), ("TablePager", 277, "no such number of pages"), ("TablePager", 293, "no such number of commands"), ("TablePager", 299, "no script of so many commands"), ("TablePager", 310, "no such number of rounds"), ("TablePager", 63, "no character code"), ("TablePager", 74, "the text is full"), ("TablePager", 272, "no state is remembered")]
def am_nc : List (String × String) := [("java/lang/IllegalArgumentException", "java/lang/IllegalStateException"), ("java/lang/IllegalArgumentException", "java/lang/IndexOutOfBoundsException"), ("java/lang/IllegalStateException", "java/lang/IllegalArgumentException"), ("java/lang/IllegalStateException", "java/lang/IndexOutOfBoundsException"), ("java/lang/IndexOutOfBoundsException", "java/lang/IllegalArgumentException"), ("java/lang/IndexOutOfBoundsException", "java/lang/IllegalStateException")]
end
section
/-! ===== BEGIN words of one list among another's, by their places ===== -/
theorem goodIn_r {big : List Cond} (ws : List Cond) (ps : List Nat) (hp : ws = ps.filterMap (fun i => big[i]?)) (h : ws.all goodWord = true) : GoodIn big ws := by
  intro w hw
  have h1 := List.all_eq_true.mp h w hw
  rw [hp] at hw
  obtain ⟨i, -, hi⟩ := List.mem_filterMap.mp hw
  have hm : w ∈ big := by first | exact List.mem_of_getElem? hi | exact List.getElem?_mem hi
  exact ⟨hm, good_of_word h1⟩
theorem goodIn_app {big a b : List Cond} (ha : GoodIn big a) (hb : GoodIn big b) : GoodIn big (a ++ b) := fun w h => (List.mem_append.mp h).elim (ha w) (hb w)
theorem goodIn_ca {big a b : List Cond} {c : Cond} (ha : GoodIn big (c :: a)) (hb : GoodIn big b) : GoodIn big (c :: (a ++ b)) := fun w h => (List.mem_cons.mp h).elim (fun e => ha w (List.mem_cons.mpr (Or.inl e))) (fun h => (List.mem_append.mp h).elim (fun h => ha w (List.mem_cons.mpr (Or.inr h))) (hb w))
theorem goodIn_sub {big ws : List Cond} (hm : ∀ w ∈ ws, w ∈ big) (h : ws.all goodWord = true) : GoodIn big ws := fun w hw => ⟨hm w hw, good_of_word (List.all_eq_true.mp h w hw)⟩
/-! ===== END ===== -/
/-! ===== BEGIN exceptions that leave a method, and their catching by the caller (launches without stack traces) ===== -/
section VXA
/-! The laws vx_back, vx_callV, vx_callS, vx_callSW, vx_throw0, vx_throwS follow proofs of the library, with one case more: JvmDerived/Free/Laws.lean (Back.of_free), Shelf42/LK1.lean (callV, callS), Shelf/KitTraced.lean (throwNew0V, throwNewS). -/
/-- where a method has thrown q: the class by its name, the cell, what was written, the world -/
def vx_T (XC : String → State → State → Prop) (st : State) (q : Addr) (t : State) (mc ms : Nat) (free : Addr → Prop) : Prop :=
  ∃ (E : String) (ce : Cell) (L : List Loc), XC E st t ∧ t.heap[q]? = some ce ∧ ce.vm = .none ∧ st.vm.findClass E = some ce.cls ∧ st.WarmedH t.vm ∧ st.sameButNew ({ t with vm := st.vm } : State) L mc ms ∧ ∀ z ∈ L, free z.base
def vx_Q (Qc : Array Value → State → Outcome → State → Prop) (XC : String → State → State → Prop) (mc ms : Nat) (free : Addr → Prop) : Array Value → State → Outcome → State → Prop := fun a st o t =>
  (Qc a st o t ∧ ∃ L, FrameEnd st o t L mc ms ∧ ∀ q ∈ L, free q.base) ∨ ∃ q, o = .threw q ∧ vx_T XC st q t mc ms free
/-- a callee that returns or throws -/
def vx_Met (l : Launch) (y : MethodName) (ws : List Cond) (rm : Room) (Pc : Array Value → State → Prop) (Qc : Array Value → State → Outcome → State → Prop) (XC : String → State → State → Prop) (mc ms : Nat) (free : Addr → Prop) : Prop :=
  MetFree l y (headSpec ws rm) Pc (fun _ _ _ _ _ => True) (vx_Q Qc XC mc ms free)
def vx_Post (XC : String → State → State → Prop) (mc ms : Nat) (free : Addr → Prop) : Pt → Array Value → Addr → Pt → Prop := fun A a q B =>
  ∃ (g : JFrame) (mk : MethodId) (t : State) (L : List Loc) (E : String) (ce : Cell), B.U.heap = t.heap ∧ B.U.vm = t.vm ∧ XC E (A.U.calling g mk a) t ∧ t.heap[q]? = some ce ∧ ce.vm = .none ∧ A.U.vm.findClass E = some ce.cls ∧ B.locs = A.locs ++ L ∧ (∀ z ∈ L, free z.base) ∧ B.cells = A.cells + mc ∧ B.slots = A.slots + ms
def vx_Back (l : Launch) (R : Room) (p : Program) (e : Env) (below : List Frame) (s : State) (sargs : Array Value) (y : MethodName) (len W9 : Nat)
    (Pre : Pt → Array Value → Prop) (Post : Pt → Array Value → Option Value → Pt → Prop) (PostX : Pt → Array Value → Addr → Pt → Prop) : Prop :=
  ∀ (m : MethodId) (meth : Method) (c : Code) (A : Pt) (g : JFrame) (ig : Instr) (mk : MethodId) (a : Array Value),
    Stand p l e R s m sargs below meth c A.U A.locs A.cells A.slots → g.method = m → g.locals.size = c.maxLocals → decode c.code g.pc = .ok (ig, len) →
    2 * g.monitorRoom + (g.stack.map fun v => v.category).sum ≤ W9 → A.U.methodNamed? y = some mk → Pre A a →
    (∃ (v : Option Value) (B : Pt), Stand p l e R s m sargs below meth c B.U B.locs B.cells B.slots ∧ Post A a v B ∧
      Steps p.tables e below (doInvoke e (A.U.setTop g) [] mk a).1 (B.U.setTop { g with pc := g.pc + len, stack := v.toList ++ g.stack })) ∨
    (∃ (q : Addr) (B : Pt), Stand p l e R s m sargs below meth c B.U B.locs B.cells B.slots ∧ PostX A a q B ∧
      Steps p.tables e below (doInvoke e (A.U.setTop g) [] mk a).1 ((B.U.setTop g).pushFrame (.throwing q)))
section Payer
variable {l : Launch} {R : Room} {p : Program} {e : Env} {below : List Frame} {s : State} {sargs : Array Value} {y : MethodName} {len W9 : Nat}
theorem vx_back {ws : List Cond} {rm : Room} {Pc : Array Value → State → Prop} {Qc : Array Value → State → Outcome → State → Prop} {XC : String → State → State → Prop} {mc ms : Nat} {free : Addr → Prop} {bytes : ByteArray} {maxL : Nat} {ret : Option FieldType}
    (hM : vx_Met l y ws rm Pc Qc XC mc ms free) (hblind : FrameBlind Pc) (hrc : rm.cells = mc) (hrs : rm.slots = ms)
    (hframes : rm.frames + 1 ≤ R.frames) (hlocals : W9 + (maxL + 11) + rm.locals ≤ R.locals)
    (hws : ∀ w ∈ ws, ∀ a' U, s.WarmedH U.vm → w.before a' U = true) (hcode : Cond.code y bytes maxL ret ∈ ws) (hinit : ∀ a' U, s.WarmedH U.vm → (Cond.initialized y.cls).before a' U = true) :
    vx_Back l R p e below s sargs y len W9 (PreOf R mc ms Pc) (PostOf Qc mc ms free) (vx_Post XC mc ms free) := by
  intro m meth c A g ig mk a X hg hsize hdg hW hn hp
  have h1 : (headSpec ws rm).pre.before a A.U = true := atoms_intro fun w hw => hws w hw _ _ X.warmed
  have h2 : (Cond.code y bytes maxL ret).before a A.U = true := hws _ hcode _ _ X.warmed
  have h3 : (Cond.initialized y.cls).before a A.U = true := hinit _ _ X.warmed
  have h4 : A.cells + (headSpec ws rm).room.cells ≤ R.cells := by rw [show (headSpec ws rm).room.cells = mc from hrc]; exact hp.1
  have h5 : A.slots + (headSpec ws rm).room.slots ≤ R.slots := by rw [show (headSpec ws rm).room.slots = ms from hrs]; exact hp.2.1
  have hPc : Pc a (A.U.calling g mk a) := hblind _ _ _ _ hp.2.2
  obtain ⟨U, Ls, c0, s0⟩ := A
  dsimp only [Pt.U, Pt.locs, Pt.cells, Pt.slots] at h1 h2 h3 h4 h5 X hn hPc ⊢
  obtain ⟨methY, cY, hmY, hcY, -, hlY, -, -, -, -⟩ := Cond.code_spec hn h2
  obtain ⟨kY, hkY, -⟩ := className_of_methodNamed hn
  have hinitY : kY.init = .initialized := Cond.initialized_spec (findClass_of_methodNamed hn) hkY h3
  have h : At U g.method c below := by rw [hg]; exact X.here
  have hlocals9 : W9 + (maxL + 11) + (headSpec ws rm).room.locals ≤ R.locals := hlocals
  have happ : (headSpec ws rm).appliesLoose y e.platform (U.calling g mk a) = true :=
    Spec.appliesLoose_calling (g := g) h hdg hn hkY hinitY
      (X.room_calling (g := g) (R' := (headSpec ws rm).room) hsize hmY hcY hframes (by rw [hlY]; omega) h4 h5) h1
  obtain ⟨mid, hmid⟩ := h.above
  have hfr : (U.setTop g).frames = (.java g :: mid) ++ below := by rw [State.frames_setTop' g h.top, hmid]; rfl
  obtain ⟨o, s₂, hsteps, -, hend, hq⟩ := Steps.callFree hM p X.admits X.cas X.clock (acts := []) hfr happ hPc trivial
  have hq' : vx_Q Qc XC mc ms free a (U.calling g mk a) o s₂ := hq
  rw [State.frames_setTop' g h.top] at hend
  obtain ⟨g₀, hg0⟩ := Option.isSome_iff_exists.mp h.top
  obtain ⟨r, hr⟩ := State.topJava?_eq_some.mp hg0
  have hr' : (({ U with heap := s₂.heap, slotsUsed := s₂.slotsUsed } : State).setVm s₂.vm).frames = .java g₀ :: r := hr
  rcases hq' with ⟨hqc, L, hfe, hL⟩ | ⟨q, rfl, E, ce, L, hx, hce, hcv, hcl, hW₂, hsm, hL⟩
  · obtain ⟨⟨v, rfl⟩, hW₂, e2, q2, q3, q4, q5, q6⟩ := id hfe
    have e3 : s₂ = ({ (U.calling g mk a).setFrames s₂.frames with heap := s₂.heap, slotsUsed := s₂.slotsUsed } : State).setVm s₂.vm := by
      have : s₂ = ({ s₂ with vm := (U.calling g mk a).vm } : State).setVm s₂.vm := rfl
      rw [e2] at this
      exact this
    obtain ⟨c₂, i₂, len₂, hc₂, hd₂, hf₂⟩ := hend
    have hW' : U.WarmedH s₂.vm := hW₂
    have hcc : c₂ = c := by
      have h1 : s₂.code? g.method = U.code? g.method := by
        rw [State.code?_eq, State.code?_eq, hW'.alike.method?]
      exact Option.some.inj (hc₂.symm.trans (h1.trans h.code))
    subst hcc
    have hlen : len₂ = len := by rw [hdg] at hd₂; cases hd₂; rfl
    subst hlen
    have hs₂ : s₂ = (({ U with heap := s₂.heap, slotsUsed := s₂.slotsUsed } : State).setVm s₂.vm).setTop { g with pc := g.pc + len₂, stack := v.toList ++ g.stack } := by
      refine e3.trans ?_
      rw [hf₂, State.calling_eq h.top, State.setFrames_setFrames, State.setTop_of_frames _ hr', hr]
      rfl
    have hsame : U.sameButNew ({ U with heap := s₂.heap, slotsUsed := s₂.slotsUsed } : State) L mc ms := by
      refine ⟨?_, q2, q3, q4, q5, q6⟩
      obtain ⟨t, ht, -⟩ := State.frames_cons hr
      show ({ U with heap := s₂.heap, slotsUsed := s₂.slotsUsed } : State) = { U.setFrames U.frames with heap := s₂.heap, slotsUsed := s₂.slotsUsed }
      rw [State.setFrames_self ht]
    subst hg
    refine Or.inl ⟨v, ⟨(({ U with heap := s₂.heap, slotsUsed := s₂.slotsUsed } : State).setVm s₂.vm), Ls ++ L, c0 + mc, s0 + ms⟩,
      ⟨X.admits, X.cas, X.clock, X.frames, X.room, X.hears, X.method, X.code, (X.here.setHeapUsed s₂.heap s₂.slotsUsed).setVm hW'.alike, X.tail, State.WarmedH.trans X.warmed hW', X.limits, X.bytes, X.same.trans (hsame.setVm s.vm)⟩,
      ⟨g, mk, s₂, L, rfl, rfl, hqc, rfl, hL, rfl, rfl⟩, ?_⟩
    show Steps p.tables e below _ ((({ U with heap := s₂.heap, slotsUsed := s₂.slotsUsed } : State).setVm s₂.vm).setTop { g with pc := g.pc + len₂, stack := v.toList ++ g.stack })
    rw [← hs₂]
    exact hsteps
  · obtain ⟨e2, q2, q3, q4, q5, q6⟩ := id hsm
    have e3 : s₂ = ({ (U.calling g mk a).setFrames s₂.frames with heap := s₂.heap, slotsUsed := s₂.slotsUsed } : State).setVm s₂.vm := by
      have : s₂ = ({ s₂ with vm := (U.calling g mk a).vm } : State).setVm s₂.vm := rfl
      rw [e2] at this
      exact this
    have hf₂ : s₂.frames = .throwing q :: .java g :: U.frames.tail := hend
    have hW' : U.WarmedH s₂.vm := hW₂
    have hs₂ : s₂ = ((({ U with heap := s₂.heap, slotsUsed := s₂.slotsUsed } : State).setVm s₂.vm).setTop g).pushFrame (.throwing q) := by
      refine e3.trans ?_
      rw [hf₂, State.calling_eq h.top, State.setFrames_setFrames, State.pushFrame, State.frames_setTop _ hr', State.setTop_of_frames _ hr', State.setFrames_setFrames, hr]
      rfl
    have hsame : U.sameButNew ({ U with heap := s₂.heap, slotsUsed := s₂.slotsUsed } : State) L mc ms := by
      refine ⟨?_, q2, q3, q4, q5, q6⟩
      obtain ⟨t, ht, -⟩ := State.frames_cons hr
      show ({ U with heap := s₂.heap, slotsUsed := s₂.slotsUsed } : State) = { U.setFrames U.frames with heap := s₂.heap, slotsUsed := s₂.slotsUsed }
      rw [State.setFrames_self ht]
    subst hg
    refine Or.inr ⟨q, ⟨(({ U with heap := s₂.heap, slotsUsed := s₂.slotsUsed } : State).setVm s₂.vm), Ls ++ L, c0 + mc, s0 + ms⟩,
      ⟨X.admits, X.cas, X.clock, X.frames, X.room, X.hears, X.method, X.code, (X.here.setHeapUsed s₂.heap s₂.slotsUsed).setVm hW'.alike, X.tail, State.WarmedH.trans X.warmed hW', X.limits, X.bytes, X.same.trans (hsame.setVm s.vm)⟩,
      ⟨g, mk, s₂, L, E, ce, rfl, rfl, hx, hce, hcv, hcl, rfl, hL, rfl, rfl⟩, ?_⟩
    show Steps p.tables e below _ (((({ U with heap := s₂.heap, slotsUsed := s₂.slotsUsed } : State).setVm s₂.vm).setTop g).pushFrame (.throwing q))
    rw [← hs₂]
    exact hsteps
end Payer
section Calls
variable {p : Program} {l : Launch} {e : Env} {R : Room} {s : State} {m : MethodId} {args : Array Value} {below : List Frame} {meth : Method} {c : Code} {T : State} {locs : List Loc} {cells slots : Nat}
theorem vx_callV (X : Stand p l e R s m args below meth c T locs cells slots) (hexec : p.tables.exec = Jvm.exec) {own C : String} {index : Nat} {y : MethodName} {bytes : ByteArray} {maxL : Nat} {ret : Option FieldType}
    (hown : s.vm.findClass own = some m.cls) (hlink : (Cond.methodLink own index y).before args s = true) (hinst : (Cond.instanceMethod y).before args s = true) (hsel : (Cond.selects C y y).before args s = true)
    (hcode : (Cond.code y bytes maxL ret).before args s = true) (hy : y.cls ≠ "java/lang/invoke/MethodHandle" ∧ y.cls ≠ "java/lang/invoke/VarHandle")
    {W9 : Nat} {Pre : Pt → Array Value → Prop} {Post : Pt → Array Value → Option Value → Pt → Prop} {PostX : Pt → Array Value → Addr → Pt → Prop} (hK : vx_Back l R p e below s args y 3 W9 Pre Post PostX)
    {b : Addr} {cellB : Cell} (hcell : T.heap[b]? = some cellB) (hobj : cellB.vm.isStatics = false) (hcls : s.vm.findClass C = some cellB.cls)
    {g : JFrame} (hg : g.method = m) (hsize : g.locals.size = c.maxLocals) {argsL rest : List Value} (hlen : ∀ sig, parseMethodDescriptor y.desc = some sig → argsL.length = sig.parameters.length)
    (hstack : g.stack = argsL.reverse ++ .ref b :: rest) (hW : 2 * g.monitorRoom + (rest.map fun v => v.category).sum ≤ W9) (hdg : decode c.code g.pc = .ok (.invokevirtual index, 3))
    (hpre : ∀ vm₁, s.WarmedH vm₁ → Pre ⟨T.setVm vm₁, locs, cells, slots⟩ (Value.ref b :: argsL).toArray) :
    (∃ (v : Option Value) (vm₁ : Vm) (B : Pt), s.WarmedH vm₁ ∧ Stand p l e R s m args below meth c B.U B.locs B.cells B.slots ∧ Post ⟨T.setVm vm₁, locs, cells, slots⟩ (Value.ref b :: argsL).toArray v B ∧
      ∀ target, Steps p.tables e below (B.U.setTop { g with pc := g.pc + 3, stack := v.toList ++ rest }) target → Steps p.tables e below (T.setTop g) target) ∨
    (∃ (q : Addr) (vm₁ : Vm) (B : Pt), s.WarmedH vm₁ ∧ Stand p l e R s m args below meth c B.U B.locs B.cells B.slots ∧ PostX ⟨T.setVm vm₁, locs, cells, slots⟩ (Value.ref b :: argsL).toArray q B ∧
      Steps p.tables e below (T.setTop g) ((B.U.setTop { g with stack := rest }).pushFrame (.throwing q))) := by
  obtain ⟨mk, methM, hnamed, hmethM, hstM, habM⟩ := Cond.instanceMethod_spec hinst
  obtain ⟨methM', cM, hmethM', -, -, -, -, -, -, hsigM⟩ := Cond.code_spec hnamed hcode
  cases hmethM.symm.trans hmethM'
  obtain ⟨c2, r2, m2, q1, q2, q3, q4, kP, hkP, hkPi⟩ := Cond.selects_spec hsel
  cases hcls.symm.trans q1
  cases (State.methodFound?_of_named hnamed hy).symm.trans q2
  cases hnamed.symm.trans q3
  have hselP : selectMethod e.platform s.vm cellB.cls mk = .method mk := by rw [Launch.admits_selectMethod X.admits]; exact q4
  obtain ⟨vm₁, X₁, hstep₁⟩ := X.invokevirtual hexec hown hlink hnamed hmethM hstM hkP hkPi hy (a := b) (cell := cellB) hcell
    (fun z h => by rw [h] at hobj; cases hobj) hselP hmethM habM hkP hkPi (g := g) hg (argsL := argsL) (rest := rest) (hlen _ hsigM) hstack hdg
  rcases hK m meth c ⟨T.setVm vm₁, locs, cells, slots⟩ { g with stack := rest } (.invokevirtual index) mk (Value.ref b :: argsL).toArray X₁ hg hsize hdg hW (X₁.named hnamed) (hpre vm₁ X₁.warmed) with ⟨v, B, X', hpost, hsteps⟩ | ⟨q, B, X', hpost, hsteps⟩
  · exact Or.inl ⟨v, vm₁, B, X₁.warmed, X', hpost, fun target h => hstep₁ _ fun acts => by rw [doInvoke_state]; exact hsteps.trans h⟩
  · exact Or.inr ⟨q, vm₁, B, X₁.warmed, X', hpost, hstep₁ _ fun acts => by rw [doInvoke_state]; exact hsteps⟩
theorem vx_callS (X : Stand p l e R s m args below meth c T locs cells slots) (hexec : p.tables.exec = Jvm.exec) {own : String} {index : Nat} {y : MethodName} {bytes : ByteArray} {maxL : Nat} {ret : Option FieldType}
    (hown : s.vm.findClass own = some m.cls) (hlink : (Cond.methodLink own index y).before args s = true) (hstat : (Cond.static y).before args s = true) (hinit : (Cond.initialized y.cls).before args s = true)
    (hcode : (Cond.code y bytes maxL ret).before args s = true) (hy : y.cls ≠ "java/lang/invoke/MethodHandle" ∧ y.cls ≠ "java/lang/invoke/VarHandle")
    {W9 : Nat} {Pre : Pt → Array Value → Prop} {Post : Pt → Array Value → Option Value → Pt → Prop} {PostX : Pt → Array Value → Addr → Pt → Prop} (hK : vx_Back l R p e below s args y 3 W9 Pre Post PostX)
    {g : JFrame} (hg : g.method = m) (hsize : g.locals.size = c.maxLocals) {argsL rest : List Value} (hlen : ∀ sig, parseMethodDescriptor y.desc = some sig → argsL.length = sig.parameters.length)
    (hstack : g.stack = argsL.reverse ++ rest) (hW : 2 * g.monitorRoom + (rest.map fun v => v.category).sum ≤ W9) (hdg : decode c.code g.pc = .ok (.invokestatic index, 3))
    (hpre : ∀ vm₁, s.WarmedH vm₁ → Pre ⟨T.setVm vm₁, locs, cells, slots⟩ argsL.toArray) :
    (∃ (v : Option Value) (vm₁ : Vm) (B : Pt), s.WarmedH vm₁ ∧ Stand p l e R s m args below meth c B.U B.locs B.cells B.slots ∧ Post ⟨T.setVm vm₁, locs, cells, slots⟩ argsL.toArray v B ∧
      ∀ target, Steps p.tables e below (B.U.setTop { g with pc := g.pc + 3, stack := v.toList ++ rest }) target → Steps p.tables e below (T.setTop g) target) ∨
    (∃ (q : Addr) (vm₁ : Vm) (B : Pt), s.WarmedH vm₁ ∧ Stand p l e R s m args below meth c B.U B.locs B.cells B.slots ∧ PostX ⟨T.setVm vm₁, locs, cells, slots⟩ argsL.toArray q B ∧
      Steps p.tables e below (T.setTop g) ((B.U.setTop { g with stack := rest }).pushFrame (.throwing q))) := by
  obtain ⟨mk, hnamed⟩ := Cond.code_named hcode
  obtain ⟨methM, cM, hmethM, -, -, -, -, -, -, hsigM⟩ := Cond.code_spec hnamed hcode
  have hstatic : methM.isStatic = true := Cond.static_spec hnamed hmethM hstat
  obtain ⟨kP, hkP, -⟩ := className_of_methodNamed hnamed
  have hinitP : kP.init = .initialized := Cond.initialized_spec (findClass_of_methodNamed hnamed) hkP hinit
  obtain ⟨vm₁, X₁, hstep₁⟩ := X.invokestatic hexec hown hlink hnamed hmethM hstatic hkP hinitP hy (g := g) hg (argsL := argsL) (rest := rest) (hlen _ hsigM) hstack hdg
  rcases hK m meth c ⟨T.setVm vm₁, locs, cells, slots⟩ { g with stack := rest } (.invokestatic index) mk argsL.toArray X₁ hg hsize hdg hW (X₁.named hnamed) (hpre vm₁ X₁.warmed) with ⟨v, B, X', hpost, hsteps⟩ | ⟨q, B, X', hpost, hsteps⟩
  · exact Or.inl ⟨v, vm₁, B, X₁.warmed, X', hpost, fun target h => hstep₁ _ fun acts => by rw [doInvoke_state]; exact hsteps.trans h⟩
  · exact Or.inr ⟨q, vm₁, B, X₁.warmed, X', hpost, hstep₁ _ fun acts => by rw [doInvoke_state]; exact hsteps⟩
end Calls
theorem vx_cls {s : State} {T : State} {vm₁ : Vm} {E : String} {k : ClassId} (hW : s.WarmedH vm₁) (h : (T.setVm vm₁).vm.findClass E = some k) : s.vm.findClass E = some k := by
  have h1 : vm₁.findClass E = some k := h
  rw [hW.alike.findClass] at h1
  exact h1
/-- the method's frame g, with q thrown over it -/
def vx_W (p : Program) (l : Launch) (e : Env) (R : Room) (s : State) (m : MethodId) (args : Array Value) (below : List Frame) (meth : Method) (c : Code) (H : Heap) (locs : List Loc) (cells slots : Nat) (Q : State → Prop) (g : JFrame) (q : Addr) : Prop :=
  ∀ T : State, T.heap = H → Stand p l e R s m args below meth c T locs cells slots → ∃ t, Steps p.tables e below ((T.setTop g).pushFrame (.throwing q)) t ∧ Q t
def vx_Run (p : Program) (l : Launch) (e : Env) (R : Room) (s : State) (m : MethodId) (args : Array Value) (below : List Frame) (meth : Method) (c : Code) (H : Heap) (locs : List Loc) (cells slots mc ms : Nat) (g : JFrame) (rest : List Value) (Qa : State → Outcome → State → Prop) (XC : String → State → State → Prop) (free : Addr → Prop) : Prop :=
  ∀ T : State, T.heap = H → Stand p l e R s m args below meth c T locs cells slots →
    (∃ (v : Option Value) (st₀ t T' : State) (L : List Loc), st₀.heap = H ∧ Stand p l e R s m args below meth c T' (locs ++ L) (cells + mc) (slots + ms) ∧ (∀ q ∈ L, free q.base) ∧ T'.heap = t.heap ∧ T'.vm = t.vm ∧ Qa st₀ (.returned v) t ∧
      Goes p e below T g T' { g with pc := g.pc + 3, stack := v.toList ++ rest }) ∨
    (∃ (q : Addr) (st₀ t T' : State) (L : List Loc) (E : String) (ce : Cell), st₀.heap = H ∧ Stand p l e R s m args below meth c T' (locs ++ L) (cells + mc) (slots + ms) ∧ (∀ z ∈ L, free z.base) ∧ T'.heap = t.heap ∧ T'.vm = t.vm ∧ XC E st₀ t ∧ t.heap[q]? = some ce ∧ ce.vm = .none ∧ s.vm.findClass E = some ce.cls ∧
      Steps p.tables e below (T.setTop g) ((T'.setTop { g with stack := rest }).pushFrame (.throwing q)))
def vx_X {S : Type} (px : S → Prop) (B : String → S → State → Prop) (A : Nat → Prop) : String → State → State → Prop := fun E st t => ∃ u : S, px u ∧ B E u t ∧ va_F A st t
section Runs
variable {p : Program} {l : Launch} {e : Env} {R : Room} {s : State} {m : MethodId} {args : Array Value} {below : List Frame} {meth : Method} {c : Code} {H : Heap} {locs : List Loc} {cells slots : Nat}
variable {y : MethodName} {bytes cc : ByteArray} {maxL nL mc ms n index : Nat} {ret : Option FieldType} {ws : List Cond} {rm : Room} {Pc : Array Value → State → Prop} {Qc : Array Value → State → Outcome → State → Prop} {XC : String → State → State → Prop} {free : Addr → Prop} {Ts : List Cond} {own C : String} {b : Addr} {As rest : List Value} {g : JFrame}
theorem vx_callBack (cb : CallB R s args own index y bytes maxL ret ws rm mc ms n) (hM : vx_Met l y ws rm Pc Qc XC mc ms free) (hbl : FrameBlind Pc) : vx_Back l R p e below s args y 3 8 (PreOf R mc ms Pc) (PostOf Qc mc ms free) (vx_Post XC mc ms free) := by
  obtain ⟨hrc, hrs, hfr, hlo, hws, hcw, -, hini, -⟩ := cb
  exact vx_back (bytes := bytes) (maxL := maxL) (ret := ret) hM hbl hrc hrs hfr hlo hws hcw (fun a' U hW => word_at hW (Or.inl (by first | rfl | simp [Cond.onTables, Cond.keeps, Cond.steady])) hini)
theorem vx_runV (S : CallFix p m c cc nL s args Ts own) (hM : vx_Met l y ws rm Pc Qc XC mc ms free) (cw : CallW R s args own C index y bytes maxL ret ws rm mc ms n) (hp : PreV s H C b Pc As)
    (hg : g.method = m) (hn : As.length = n) (hsize : g.locals.size = nL) (hstack : g.stack = As.reverse ++ .ref b :: rest) (hW : 2 * g.monitorRoom + (rest.map fun v => v.category).sum ≤ 8) (hdg : decode cc g.pc = .ok (.invokevirtual index, 3)) (hf : cells + mc ≤ R.cells ∧ slots + ms ≤ R.slots) :
    vx_Run p l e R s m args below meth c H locs cells slots mc ms g rest (Qc (Value.ref b :: As).toArray) XC free := by
  have hK : vx_Back l R p e below s args y 3 8 (PreOf R mc ms Pc) (PostOf Qc mc ms free) (vx_Post XC mc ms free) := vx_callBack cw.1 hM hp.1
  obtain ⟨⟨-, -, -, -, -, -, hcode, -, hy, hlen, hl⟩, hin, hse⟩ := cw
  obtain ⟨hx, hb, hml, ho, -⟩ := S
  obtain ⟨-, ⟨cellB, hcB, hoB, hclB⟩, hPc⟩ := hp
  intro T hT X
  rcases vx_callV X hx (C := C) (bytes := bytes) (maxL := maxL) (ret := ret) ho hl hin hse hcode hy hK (by rw [hT]; exact hcB) hoB hclB hg (hsize.trans hml.symm) (argsL := As) (rest := rest) (fun sig h => hn.trans (hlen sig h)) hstack hW (by rw [hb]; exact hdg)
    (fun vm₁ hW₁ => ⟨hf.1, hf.2, hPc (T.setVm vm₁) hT hW₁⟩) with ⟨v, vm₁, ⟨U', l2, c2, s2⟩, hW₁, X', ⟨g', mk, t, L, e1, e2, hq, h1, hL, h2, h3⟩, st⟩ | ⟨q, vm₁, ⟨U', l2, c2, s2⟩, hW₁, X', ⟨g', mk, t, L, E, ce, e1, e2, hq, hce, hcv, hcl, h1, hL, h2, h3⟩, st⟩
  · dsimp only [Pt.U, Pt.locs, Pt.cells, Pt.slots] at X' e1 e2 h1 h2 h3 st
    subst h1; subst h2; subst h3
    exact Or.inl ⟨v, (T.setVm vm₁).calling g' mk (Value.ref b :: As).toArray, t, U', L, hT, X', hL, e1, e2, hq, st⟩
  · dsimp only [Pt.U, Pt.locs, Pt.cells, Pt.slots] at X' e1 e2 h1 h2 h3 st hcl
    subst h1; subst h2; subst h3
    exact Or.inr ⟨q, (T.setVm vm₁).calling g' mk (Value.ref b :: As).toArray, t, U', L, E, ce, hT, X', hL, e1, e2, hq, hce, hcv, vx_cls hW₁ hcl, st⟩
theorem vx_runS (S : CallFix p m c cc nL s args Ts own) (hM : vx_Met l y ws rm Pc Qc XC mc ms free) (cw : CallB R s args own index y bytes maxL ret ws rm mc ms n ∧ (Cond.static y).before args s = true) (hp : PreS s H Pc As)
    (hg : g.method = m) (hn : As.length = n) (hsize : g.locals.size = nL) (hstack : g.stack = As.reverse ++ rest) (hW : 2 * g.monitorRoom + (rest.map fun v => v.category).sum ≤ 8) (hdg : decode cc g.pc = .ok (.invokestatic index, 3)) (hf : cells + mc ≤ R.cells ∧ slots + ms ≤ R.slots) :
    vx_Run p l e R s m args below meth c H locs cells slots mc ms g rest (Qc As.toArray) XC free := by
  have hK : vx_Back l R p e below s args y 3 8 (PreOf R mc ms Pc) (PostOf Qc mc ms free) (vx_Post XC mc ms free) := vx_callBack cw.1 hM hp.1
  obtain ⟨⟨-, -, -, -, -, -, hcode, hini, hy, hlen, hl⟩, hstt⟩ := cw
  obtain ⟨hx, hb, hml, ho, -⟩ := S
  intro T hT X
  rcases vx_callS X hx (bytes := bytes) (maxL := maxL) (ret := ret) ho hl hstt hini hcode hy hK hg (hsize.trans hml.symm) (argsL := As) (rest := rest) (fun sig h => hn.trans (hlen sig h)) hstack hW (by rw [hb]; exact hdg)
    (fun vm₁ hW₁ => ⟨hf.1, hf.2, hp.2 (T.setVm vm₁) hT hW₁⟩) with ⟨v, vm₁, ⟨U', l2, c2, s2⟩, hW₁, X', ⟨g', mk, t, L, e1, e2, hq, h1, hL, h2, h3⟩, st⟩ | ⟨q, vm₁, ⟨U', l2, c2, s2⟩, hW₁, X', ⟨g', mk, t, L, E, ce, e1, e2, hq, hce, hcv, hcl, h1, hL, h2, h3⟩, st⟩
  · dsimp only [Pt.U, Pt.locs, Pt.cells, Pt.slots] at X' e1 e2 h1 h2 h3 st
    subst h1; subst h2; subst h3
    exact Or.inl ⟨v, (T.setVm vm₁).calling g' mk As.toArray, t, U', L, hT, X', hL, e1, e2, hq, st⟩
  · dsimp only [Pt.U, Pt.locs, Pt.cells, Pt.slots] at X' e1 e2 h1 h2 h3 st hcl
    subst h1; subst h2; subst h3
    exact Or.inr ⟨q, (T.setVm vm₁).calling g' mk As.toArray, t, U', L, E, ce, hT, X', hL, e1, e2, hq, hce, hcv, vx_cls hW₁ hcl, st⟩
end Runs
section Rows
variable {p : Program} {l : Launch} {e : Env} {R : Room} {s : State} {m : MethodId} {args : Array Value} {below : List Frame} {meth : Method} {c : Code} {H : Heap} {locs : List Loc} {cells slots : Nat} {Q : State → Prop}
variable {mc ms : Nat} {free : Addr → Prop} {A0 A1 : Nat → Prop} {H0 : Heap} {a : Array Value} {pc : Nat} {ls : Array Slot} {st0 rest : List Value}
theorem vx_keep {st₀ t T' : State} {L : List Loc} (h0 : st₀.heap = H) (e1 : T'.heap = t.heap) (hS : va_S A0 H0 H locs) (hA : ∀ q, q < H.size → A1 q → A0 q) (hf : ∀ q, free q → A0 q) (hL : ∀ q ∈ L, free q.base) (hF : va_F A1 st₀ t) :
    H.size ≤ T'.heap.size ∧ (∀ q : Nat, q < H.size → ¬ A1 q → T'.heap[q]? = H[q]?) ∧ va_S A0 H0 T'.heap (locs ++ L) := by
  obtain ⟨hz, hk⟩ := hF
  rw [h0] at hz hk
  exact ⟨by rw [e1]; exact hz, fun q h1 h2 => by rw [e1]; exact hk q h1 h2,
    ⟨Nat.le_trans hS.1 (by rw [e1]; exact hz), fun q h1 h2 => by rw [e1, hk q (Nat.lt_of_lt_of_le h1 hS.1) (fun z => h2 (hA q (Nat.lt_of_lt_of_le h1 hS.1) z))]; exact hS.2.1 q h1 h2, fun q hq => by
      rcases List.mem_append.mp hq with h | h
      · exact hS.2.2 q h
      · exact hf _ (hL q h)⟩⟩
theorem vx_calli {S SX : Type} {post : Int32 → S → Prop} {px : SX → Prop} {B : S → State → Prop} {BX : String → SX → State → Prop} {AX : Nat → Prop} (hr : vx_Run p l e R s m args below meth c H locs cells slots mc ms (F0 m pc ls st0) rest (va_Qi post B A1 a) (vx_X px BX AX) free) (hS : va_S A0 H0 H locs) (hA : ∀ q, q < H.size → A1 q → A0 q) (hf : ∀ q, free q → A0 q) (hAX : ∀ q, q < H.size → AX q → A0 q)
    (kx : ∀ (E : String) (ce : Cell) (q9 : Addr) (u : SX) (t : State) (H1 : Heap) (locs1 : List Loc), t.heap = H1 → s.vm.Alike t.vm → px u → BX E u t → H.size ≤ H1.size → (∀ q : Nat, q < H.size → ¬ AX q → H1[q]? = H[q]?) → va_S A0 H0 H1 locs1 → H1[q9]? = some ce → ce.vm = .none → s.vm.findClass E = some ce.cls → vx_W p l e R s m args below meth c H1 locs1 (cells + mc) (slots + ms) Q (F0 m pc ls rest) q9)
    (kk : ∀ (r : Int32) (u : S) (t : State) (H1 : Heap) (locs1 : List Loc), t.heap = H1 → s.vm.Alike t.vm → post r u → B u t → H.size ≤ H1.size → (∀ q : Nat, q < H.size → ¬ A1 q → H1[q]? = H[q]?) → va_S A0 H0 H1 locs1 → W p l e R s m args below meth c H1 locs1 (cells + mc) (slots + ms) Q (F0 m (pc + 3) ls (.int r :: rest))) : W p l e R s m args below meth c H locs cells slots Q (F0 m pc ls st0) := by
  intro T hT X
  rcases hr T hT X with ⟨v, st₀, t, T', L, h0, X', hL, e1, e2, ⟨⟨r, u, hv, hp, hb⟩, hF⟩, st⟩ | ⟨q, st₀, t, T', L, E, ce, h0, X', hL, e1, e2, ⟨u, hp, hb, hF⟩, hce, hcv, hcl, st⟩
  · cases hv
    obtain ⟨k1, k2, k3⟩ := vx_keep h0 e1 hS hA hf hL hF
    obtain ⟨t2, a1, b1⟩ := kk r u t T'.heap (locs ++ L) e1.symm (by rw [← e2]; exact X'.warmed.alike) hp hb k1 k2 k3 T' rfl X'
    exact ⟨t2, st t2 a1, b1⟩
  · obtain ⟨k1, k2, k3⟩ := vx_keep h0 e1 hS hAX hf hL hF
    obtain ⟨t2, a1, b1⟩ := kx E ce q u t T'.heap (locs ++ L) e1.symm (by rw [← e2]; exact X'.warmed.alike) hp hb k1 k2 k3 (by rw [e1]; exact hce) hcv hcl T' rfl X'
    exact ⟨t2, st.trans a1, b1⟩
theorem vx_calll {S SX : Type} {post : Int64 → S → Prop} {px : SX → Prop} {B : S → State → Prop} {BX : String → SX → State → Prop} {AX : Nat → Prop} (hr : vx_Run p l e R s m args below meth c H locs cells slots mc ms (F0 m pc ls st0) rest (va_Ql post B A1 a) (vx_X px BX AX) free) (hS : va_S A0 H0 H locs) (hA : ∀ q, q < H.size → A1 q → A0 q) (hf : ∀ q, free q → A0 q) (hAX : ∀ q, q < H.size → AX q → A0 q)
    (kx : ∀ (E : String) (ce : Cell) (q9 : Addr) (u : SX) (t : State) (H1 : Heap) (locs1 : List Loc), t.heap = H1 → s.vm.Alike t.vm → px u → BX E u t → H.size ≤ H1.size → (∀ q : Nat, q < H.size → ¬ AX q → H1[q]? = H[q]?) → va_S A0 H0 H1 locs1 → H1[q9]? = some ce → ce.vm = .none → s.vm.findClass E = some ce.cls → vx_W p l e R s m args below meth c H1 locs1 (cells + mc) (slots + ms) Q (F0 m pc ls rest) q9)
    (kk : ∀ (r : Int64) (u : S) (t : State) (H1 : Heap) (locs1 : List Loc), t.heap = H1 → s.vm.Alike t.vm → post r u → B u t → H.size ≤ H1.size → (∀ q : Nat, q < H.size → ¬ A1 q → H1[q]? = H[q]?) → va_S A0 H0 H1 locs1 → W p l e R s m args below meth c H1 locs1 (cells + mc) (slots + ms) Q (F0 m (pc + 3) ls (.long r :: rest))) : W p l e R s m args below meth c H locs cells slots Q (F0 m pc ls st0) := by
  intro T hT X
  rcases hr T hT X with ⟨v, st₀, t, T', L, h0, X', hL, e1, e2, ⟨⟨r, u, hv, hp, hb⟩, hF⟩, st⟩ | ⟨q, st₀, t, T', L, E, ce, h0, X', hL, e1, e2, ⟨u, hp, hb, hF⟩, hce, hcv, hcl, st⟩
  · cases hv
    obtain ⟨k1, k2, k3⟩ := vx_keep h0 e1 hS hA hf hL hF
    obtain ⟨t2, a1, b1⟩ := kk r u t T'.heap (locs ++ L) e1.symm (by rw [← e2]; exact X'.warmed.alike) hp hb k1 k2 k3 T' rfl X'
    exact ⟨t2, st t2 a1, b1⟩
  · obtain ⟨k1, k2, k3⟩ := vx_keep h0 e1 hS hAX hf hL hF
    obtain ⟨t2, a1, b1⟩ := kx E ce q u t T'.heap (locs ++ L) e1.symm (by rw [← e2]; exact X'.warmed.alike) hp hb k1 k2 k3 (by rw [e1]; exact hce) hcv hcl T' rfl X'
    exact ⟨t2, st.trans a1, b1⟩
theorem vx_callf {S SX : Type} {post : UInt32 → S → Prop} {px : SX → Prop} {B : S → State → Prop} {BX : String → SX → State → Prop} {AX : Nat → Prop} (hr : vx_Run p l e R s m args below meth c H locs cells slots mc ms (F0 m pc ls st0) rest (va_Qf post B A1 a) (vx_X px BX AX) free) (hS : va_S A0 H0 H locs) (hA : ∀ q, q < H.size → A1 q → A0 q) (hf : ∀ q, free q → A0 q) (hAX : ∀ q, q < H.size → AX q → A0 q)
    (kx : ∀ (E : String) (ce : Cell) (q9 : Addr) (u : SX) (t : State) (H1 : Heap) (locs1 : List Loc), t.heap = H1 → s.vm.Alike t.vm → px u → BX E u t → H.size ≤ H1.size → (∀ q : Nat, q < H.size → ¬ AX q → H1[q]? = H[q]?) → va_S A0 H0 H1 locs1 → H1[q9]? = some ce → ce.vm = .none → s.vm.findClass E = some ce.cls → vx_W p l e R s m args below meth c H1 locs1 (cells + mc) (slots + ms) Q (F0 m pc ls rest) q9)
    (kk : ∀ (r : UInt32) (u : S) (t : State) (H1 : Heap) (locs1 : List Loc), t.heap = H1 → s.vm.Alike t.vm → post r u → B u t → H.size ≤ H1.size → (∀ q : Nat, q < H.size → ¬ A1 q → H1[q]? = H[q]?) → va_S A0 H0 H1 locs1 → W p l e R s m args below meth c H1 locs1 (cells + mc) (slots + ms) Q (F0 m (pc + 3) ls (.float r :: rest))) : W p l e R s m args below meth c H locs cells slots Q (F0 m pc ls st0) := by
  intro T hT X
  rcases hr T hT X with ⟨v, st₀, t, T', L, h0, X', hL, e1, e2, ⟨⟨r, u, hv, hp, hb⟩, hF⟩, st⟩ | ⟨q, st₀, t, T', L, E, ce, h0, X', hL, e1, e2, ⟨u, hp, hb, hF⟩, hce, hcv, hcl, st⟩
  · cases hv
    obtain ⟨k1, k2, k3⟩ := vx_keep h0 e1 hS hA hf hL hF
    obtain ⟨t2, a1, b1⟩ := kk r u t T'.heap (locs ++ L) e1.symm (by rw [← e2]; exact X'.warmed.alike) hp hb k1 k2 k3 T' rfl X'
    exact ⟨t2, st t2 a1, b1⟩
  · obtain ⟨k1, k2, k3⟩ := vx_keep h0 e1 hS hAX hf hL hF
    obtain ⟨t2, a1, b1⟩ := kx E ce q u t T'.heap (locs ++ L) e1.symm (by rw [← e2]; exact X'.warmed.alike) hp hb k1 k2 k3 (by rw [e1]; exact hce) hcv hcl T' rfl X'
    exact ⟨t2, st.trans a1, b1⟩
theorem vx_calld {S SX : Type} {post : UInt64 → S → Prop} {px : SX → Prop} {B : S → State → Prop} {BX : String → SX → State → Prop} {AX : Nat → Prop} (hr : vx_Run p l e R s m args below meth c H locs cells slots mc ms (F0 m pc ls st0) rest (va_Qd post B A1 a) (vx_X px BX AX) free) (hS : va_S A0 H0 H locs) (hA : ∀ q, q < H.size → A1 q → A0 q) (hf : ∀ q, free q → A0 q) (hAX : ∀ q, q < H.size → AX q → A0 q)
    (kx : ∀ (E : String) (ce : Cell) (q9 : Addr) (u : SX) (t : State) (H1 : Heap) (locs1 : List Loc), t.heap = H1 → s.vm.Alike t.vm → px u → BX E u t → H.size ≤ H1.size → (∀ q : Nat, q < H.size → ¬ AX q → H1[q]? = H[q]?) → va_S A0 H0 H1 locs1 → H1[q9]? = some ce → ce.vm = .none → s.vm.findClass E = some ce.cls → vx_W p l e R s m args below meth c H1 locs1 (cells + mc) (slots + ms) Q (F0 m pc ls rest) q9)
    (kk : ∀ (r : UInt64) (u : S) (t : State) (H1 : Heap) (locs1 : List Loc), t.heap = H1 → s.vm.Alike t.vm → post r u → B u t → H.size ≤ H1.size → (∀ q : Nat, q < H.size → ¬ A1 q → H1[q]? = H[q]?) → va_S A0 H0 H1 locs1 → W p l e R s m args below meth c H1 locs1 (cells + mc) (slots + ms) Q (F0 m (pc + 3) ls (.double r :: rest))) : W p l e R s m args below meth c H locs cells slots Q (F0 m pc ls st0) := by
  intro T hT X
  rcases hr T hT X with ⟨v, st₀, t, T', L, h0, X', hL, e1, e2, ⟨⟨r, u, hv, hp, hb⟩, hF⟩, st⟩ | ⟨q, st₀, t, T', L, E, ce, h0, X', hL, e1, e2, ⟨u, hp, hb, hF⟩, hce, hcv, hcl, st⟩
  · cases hv
    obtain ⟨k1, k2, k3⟩ := vx_keep h0 e1 hS hA hf hL hF
    obtain ⟨t2, a1, b1⟩ := kk r u t T'.heap (locs ++ L) e1.symm (by rw [← e2]; exact X'.warmed.alike) hp hb k1 k2 k3 T' rfl X'
    exact ⟨t2, st t2 a1, b1⟩
  · obtain ⟨k1, k2, k3⟩ := vx_keep h0 e1 hS hAX hf hL hF
    obtain ⟨t2, a1, b1⟩ := kx E ce q u t T'.heap (locs ++ L) e1.symm (by rw [← e2]; exact X'.warmed.alike) hp hb k1 k2 k3 (by rw [e1]; exact hce) hcv hcl T' rfl X'
    exact ⟨t2, st.trans a1, b1⟩
theorem vx_callv {S SX : Type} {post : S → Prop} {px : SX → Prop} {B : S → State → Prop} {BX : String → SX → State → Prop} {AX : Nat → Prop} (hr : vx_Run p l e R s m args below meth c H locs cells slots mc ms (F0 m pc ls st0) rest (va_Qv post B A1 a) (vx_X px BX AX) free) (hS : va_S A0 H0 H locs) (hA : ∀ q, q < H.size → A1 q → A0 q) (hf : ∀ q, free q → A0 q) (hAX : ∀ q, q < H.size → AX q → A0 q)
    (kx : ∀ (E : String) (ce : Cell) (q9 : Addr) (u : SX) (t : State) (H1 : Heap) (locs1 : List Loc), t.heap = H1 → s.vm.Alike t.vm → px u → BX E u t → H.size ≤ H1.size → (∀ q : Nat, q < H.size → ¬ AX q → H1[q]? = H[q]?) → va_S A0 H0 H1 locs1 → H1[q9]? = some ce → ce.vm = .none → s.vm.findClass E = some ce.cls → vx_W p l e R s m args below meth c H1 locs1 (cells + mc) (slots + ms) Q (F0 m pc ls rest) q9)
    (kk : ∀ (u : S) (t : State) (H1 : Heap) (locs1 : List Loc), t.heap = H1 → s.vm.Alike t.vm → post u → B u t → H.size ≤ H1.size → (∀ q : Nat, q < H.size → ¬ A1 q → H1[q]? = H[q]?) → va_S A0 H0 H1 locs1 → W p l e R s m args below meth c H1 locs1 (cells + mc) (slots + ms) Q (F0 m (pc + 3) ls (rest))) : W p l e R s m args below meth c H locs cells slots Q (F0 m pc ls st0) := by
  intro T hT X
  rcases hr T hT X with ⟨v, st₀, t, T', L, h0, X', hL, e1, e2, ⟨⟨u, hv, hp, hb⟩, hF⟩, st⟩ | ⟨q, st₀, t, T', L, E, ce, h0, X', hL, e1, e2, ⟨u, hp, hb, hF⟩, hce, hcv, hcl, st⟩
  · cases hv
    obtain ⟨k1, k2, k3⟩ := vx_keep h0 e1 hS hA hf hL hF
    obtain ⟨t2, a1, b1⟩ := kk u t T'.heap (locs ++ L) e1.symm (by rw [← e2]; exact X'.warmed.alike) hp hb k1 k2 k3 T' rfl X'
    exact ⟨t2, st t2 a1, b1⟩
  · obtain ⟨k1, k2, k3⟩ := vx_keep h0 e1 hS hAX hf hL hF
    obtain ⟨t2, a1, b1⟩ := kx E ce q u t T'.heap (locs ++ L) e1.symm (by rw [← e2]; exact X'.warmed.alike) hp hb k1 k2 k3 (by rw [e1]; exact hce) hcv hcl T' rfl X'
    exact ⟨t2, st.trans a1, b1⟩
/-- caught by the row x of this method's table; the rows ahead don't take it -/
theorem vx_catch {own name : String} {E : String} {ce : Cell} {q : Addr} (hown : s.vm.findClass own = some m.cls) (pre : List ExceptionTableEntry) (x : ExceptionTableEntry) (suf : List ExceptionTableEntry) (hsplit : c.exceptionTable.toList = pre ++ x :: suf)
    (hpass : ∀ z ∈ pre, covers z pc = false ∨ (z.catchType ≠ 0 ∧ ∃ nm : String, (Cond.classLink own z.catchType nm).before args s = true ∧ va_Nc E nm s)) (hx : covers x pc = true) (h0 : x.catchType ≠ 0)
    (hlink : (Cond.classLink own x.catchType name).before args s = true) (hcast : (Cond.castable E name).before args s = true) (hcell : H[q]? = some ce) (hv : ce.vm = .none) (hcl : s.vm.findClass E = some ce.cls)
    (kk : W p l e R s m args below meth c H locs cells slots Q (F0 m x.handlerPc ls [.ref q])) : vx_W p l e R s m args below meth c H locs cells slots Q (F0 m pc ls rest) q := by
  intro T hT X
  have hpl : e.platform.magicAccessors = ({} : Platform).magicAccessors := by rw [X.admits.platform]
  obtain ⟨c3, c4, hc3, hc4, hasg⟩ := Cond.castable_spec hcast
  cases Option.some.inj (hc3.symm.trans hcl)
  obtain ⟨c5, hc5, hcl5⟩ := Cond.classLink_spec hown hlink e.platform hpl
  cases Option.some.inj (hc4.symm.trans hc5)
  obtain ⟨vm', X', st⟩ := X.thenCaughtThrough q (g := F0 m pc ls rest) rfl (Steps.refl _) (by rw [hT]; exact hcell) (by rw [hv]; rfl) (by obtain ⟨k9, h9, -⟩ := Vm.findClass_spec hcl; exact ⟨k9, h9⟩) pre x suf hsplit
    (fun z hz => by
      rcases hpass z hz with h | ⟨hz0, nm, hl1, hn1⟩
      · exact Or.inl h
      · obtain ⟨c6, hc6, hcl6⟩ := Cond.classLink_spec hown hl1 e.platform hpl
        obtain ⟨a8, b8, h1, h2, h3⟩ := hn1
        cases Option.some.inj (h1.symm.trans hcl)
        cases Option.some.inj (h2.symm.trans hc6)
        exact Or.inr ⟨hz0, _, hcl6, h3⟩) hx (Or.inr ⟨h0, c4, hcl5, hasg⟩)
  obtain ⟨t, a1, b1⟩ := kk (T.setVm vm') hT X'
  exact ⟨t, st.trans a1, b1⟩
end Rows
section Ends
variable {p : Program} {l : Launch} {e : Env} {R : Room} {s : State} {m : MethodId} {args : Array Value} {below : List Frame} {meth : Method} {c : Code} {H : Heap} {locs : List Loc} {cells slots : Nat} {Q : State → Prop}
variable {mc ms : Nat} {free : Addr → Prop} {A0 A1 : Nat → Prop} {H0 : Heap} {a : Array Value} {ls : Array Slot} {st0 rest : List Value}
variable {Qc : Array Value → State → Outcome → State → Prop} {XC : String → State → State → Prop}
/-- what a body that may throw owes at its end -/
def vx_MQ (below : List Frame) (Qc : Array Value → State → Outcome → State → Prop) (XC : String → State → State → Prop) (a : Array Value) (s : State) (mc ms : Nat) (free : Addr → Prop) : State → Prop := fun t =>
  ∃ o, t.status = .running ∧ Ended t below o ∧ vx_Q Qc XC mc ms free a s o t
theorem vx_ret {g : JFrame} {mc ms : Nat} (k : W p l e R s m args below meth c H locs cells slots (MQ below Qc args s mc ms free) g) : W p l e R s m args below meth c H locs cells slots (vx_MQ below Qc XC args s mc ms free) g := by
  intro T hT X
  obtain ⟨t, a1, o, b1, b2, b3, b4⟩ := k T hT X
  exact ⟨t, a1, o, b1, b2, Or.inl ⟨b3, b4⟩⟩
/-- not caught here: it goes on to the caller -/
theorem vx_widen {g : JFrame} {q : Addr} {k n : Nat} (h1 : cells ≤ k) (h2 : slots ≤ n) (kk : vx_W p l e R s m args below meth c H locs k n Q g q) : vx_W p l e R s m args below meth c H locs cells slots Q g q := fun T hT X => kk T hT (stand_widen X h1 h2)
theorem vx_out {pc : Nat} {E : String} {ce : Cell} {q : Addr} {mc ms : Nat} (hout : ∀ x ∈ c.exceptionTable.toList, covers x pc = false) (hlocks : meth.locks = false) (hcell : H[q]? = some ce) (hv : ce.vm = .none) (hcl : s.vm.findClass E = some ce.cls)
    (hx : ∀ t : State, t.heap = H → s.vm.Alike t.vm → XC E s t) (hf : ∀ z ∈ locs, free z.base) (hc : cells ≤ mc) (hs : slots ≤ ms) :
    vx_W p l e R s m args below meth c H locs cells slots (vx_MQ below Qc XC args s mc ms free) (F0 m pc ls rest) q := by
  intro T hT X
  obtain ⟨st1, hrun, hend, hW, hsm⟩ := X.leaveThrown q (g := F0 m pc ls rest) rfl rfl rfl hout hlocks
  have hcell9 : (T.setFrames (.throwing q :: below)).heap[q]? = some ce := by
    show T.heap[q]? = some ce
    rw [hT]; exact hcell
  exact ⟨_, st1, .threw q, hrun, hend, Or.inr ⟨q, rfl, E, ce, locs, hx _ hT hW.alike, hcell9, hv, hcl, hW, hsm.mono hc hs, hf⟩⟩
theorem vx_frame {U : State} {k n : Nat} (h : s.sameButNew ({ U with vm := s.vm } : State) locs k n) : s.heap.size ≤ U.heap.size ∧ ∀ q : Nat, q < s.heap.size → (∀ z ∈ locs, z.base ≠ q) → U.heap[q]? = s.heap[q]? := by
  obtain ⟨-, h2, -, -, -, h6⟩ := h
  refine ⟨h2, fun q hq hz => ?_⟩
  obtain ⟨c9, e1, e2, e3, e4⟩ := h6 q _ (Array.getElem?_eq_getElem hq)
  have hs : c9.slots = (s.heap[q]).slots := Array.ext_getElem? fun i => e4 i fun hm => hz _ hm rfl
  have h9 : c9 = s.heap[q] := by
    rw [hs] at e2
    exact e2
  have e5 : U.heap[q]? = some c9 := e1
  rw [e5, h9, Array.getElem?_eq_getElem hq]
/-- the words of a throw but the four that speak of the heap -/
def vx_no (w : Cond) : Bool := decide (w ≠ .isRef (.static Bundle.tN "UNASSIGNED_STACK" Bundle.steD)) && decide (w ≠ .isRef (.static Bundle.tN "SUPPRESSED_SENTINEL" Bundle.listD)) && decide (w ≠ .laysStatic Bundle.tN "UNASSIGNED_STACK" Bundle.steD) && decide (w ≠ .laysStatic Bundle.tN "SUPPRESSED_SENTINEL" Bundle.listD)
def vx_at0 (own : String) (ic : Nat) (X : String) (names : List String) : List Cond := (Bundle.ownAtoms0 own ic X names).filter vx_no
def vx_atS (own : String) (ic : Nat) (X : String) (names : List String) : List Cond := (Bundle.ownAtoms own ic X names).filter vx_no
/-- a word that the tables alone decide, or a good one -/
def vx_ot (w : Cond) : Bool := w.onTables || goodWord w
theorem vx_ot_at {args a' : Array Value} {s U : State} {w : Cond} (hW : s.WarmedH U.vm) (hvm : s.vm = U.vm) (hg : vx_ot w = true) (h : w.before args s = true) : w.before a' U = true := by
  simp only [vx_ot, Bool.or_eq_true] at hg
  rcases hg with hg | hg
  · exact va_tabs hg hvm h
  · exact word_at hW (good_of_word hg) h
/-- a list's words: the good ones out of the method's own list, the others by premises of their own -/
theorem vx_hat {args : Array Value} {s : State} {L B : List Cond} (h1 : ∀ w ∈ L.filter goodWord, w.before args s = true) (h2 : ∀ w ∈ L.filter (fun w => !goodWord w), w ∈ B) (h3 : ∀ w ∈ B, w.before args s = true) : ∀ w ∈ L, w.before args s = true := by
  intro w hw
  by_cases g : goodWord w = true
  · exact h1 w (List.mem_filter.mpr ⟨hw, g⟩)
  · refine h3 w (h2 w (List.mem_filter.mpr ⟨hw, ?_⟩))
    show (!goodWord w) = true
    cases hgw : goodWord w
    · rfl
    · exact absurd hgw g
theorem vx_c {args : Array Value} {s : State} {w : Cond} {B : List Cond} (h : w.before args s = true) (t : ∀ w ∈ B, w.before args s = true) : ∀ w' ∈ w :: B, w'.before args s = true := fun w' h' => (List.mem_cons.mp h').elim (fun e => by rw [e]; exact h) (t w')
theorem vx_n {args : Array Value} {s : State} : ∀ w ∈ ([] : List Cond), w.before args s = true := fun _ h => nomatch h
theorem vx_own {args : Array Value} {s : State} {L : List Cond} (h1 : ∀ w ∈ L.filter vx_no, w.before args s = true)
    (hU : (Cond.isRef (.static Bundle.tN "UNASSIGNED_STACK" Bundle.steD)).before args s = true) (hN : (Cond.isRef (.static Bundle.tN "SUPPRESSED_SENTINEL" Bundle.listD)).before args s = true)
    (lU : (Cond.laysStatic Bundle.tN "UNASSIGNED_STACK" Bundle.steD).before args s = true) (lN : (Cond.laysStatic Bundle.tN "SUPPRESSED_SENTINEL" Bundle.listD).before args s = true) : ∀ w ∈ L, w.before args s = true := by
  intro w hw
  by_cases e1 : w = .isRef (.static Bundle.tN "UNASSIGNED_STACK" Bundle.steD)
  · rw [e1]; exact hU
  · by_cases e2 : w = .isRef (.static Bundle.tN "SUPPRESSED_SENTINEL" Bundle.listD)
    · rw [e2]; exact hN
    · by_cases e3 : w = .laysStatic Bundle.tN "UNASSIGNED_STACK" Bundle.steD
      · rw [e3]; exact lU
      · by_cases e4 : w = .laysStatic Bundle.tN "SUPPRESSED_SENTINEL" Bundle.listD
        · rw [e4]; exact lN
        · exact h1 w (List.mem_filter.mpr ⟨hw, by unfold vx_no; rw [decide_eq_true e1, decide_eq_true e2, decide_eq_true e3, decide_eq_true e4]; rfl⟩)
/-- where a static field lies, its class's statics cell in H -/
def vx_L (C n d : String) (A : Nat → Prop) (U : State) (H : Heap) : Prop := ∃ (c : ClassId) (k : Class) (i : Nat) (f : Field) (a : Nat) (cell : Cell), U.vm.findClass C = some c ∧ U.fieldFound? C n d = some (c, k, i, f) ∧ f.isStatic = true ∧ k.statics = some a ∧ H[a]? = some cell ∧ cell.vm.isStatics = true ∧ cell.cls = c ∧ f.slot < cell.slots.size ∧ k.staticTypes[f.slot]? = some f.type ∧ ¬ A a
theorem vx_L.moved {C n d : String} {A : Nat → Prop} {u U : State} {H : Heap} (hvm : u.vm.Alike U.vm) (h : vx_L C n d A u H) : vx_L C n d A U H := by
  obtain ⟨c, k, i, f, a, cell, h1, h2, h3, h4, h5, h6, h7, h8, h9, h10⟩ := h
  obtain ⟨k', hi', he⟩ := State.fieldFound?_setVm hvm h2
  exact ⟨c, k', i, f, a, cell, by rw [hvm.findClass]; exact h1, hi', h3, by rw [he]; exact h4, h5, h6, h7, h8, by rw [he]; exact h9, h10⟩
theorem vx_L.kept {C n d : String} {A : Nat → Prop} {U : State} {H H1 : Heap} (h : vx_L C n d A U H) (hq : ∀ a : Nat, a < H.size → ¬ A a → H1[a]? = H[a]?) : vx_L C n d A U H1 := by
  obtain ⟨c, k, i, f, a, cell, h1, h2, h3, h4, h5, h6, h7, h8, h9, h10⟩ := h
  exact ⟨c, k, i, f, a, cell, h1, h2, h3, h4, by rw [hq a (Array.getElem?_eq_some_iff.mp h5).1 h10]; exact h5, h6, h7, h8, h9, h10⟩
theorem vx_L.narrow {C n d : String} {A B : Nat → Prop} {U : State} {H : Heap} (h : vx_L C n d A U H) (hAB : ∀ q, B q → A q) : vx_L C n d B U H := by
  obtain ⟨c, k, i, f, a, cell, h1, h2, h3, h4, h5, h6, h7, h8, h9, h10⟩ := h
  exact ⟨c, k, i, f, a, cell, h1, h2, h3, h4, h5, h6, h7, h8, h9, fun z => h10 (hAB _ z)⟩
theorem vx_L.word {C n d : String} {A : Nat → Prop} {s : State} {args : Array Value} (h : vx_L C n d A s s.heap) : (Cond.laysStatic C n d).before args s = true := by
  obtain ⟨c, k, i, f, a, cell, h1, h2, h3, h4, h5, h6, h7, h8, h9, -⟩ := h
  show (Cond.laysStatic C n d).holds args s none s [] = true
  exact Cond.laysStatic_of h1 h2 h3 h4 h5 h6 h7 h8 h9
/-- .. and what it holds: null or some reference -/
def vx_Zq (C n d : String) (A : Nat → Prop) (U : State) (H : Heap) : Prop := va_Zq C n d A U H ∧ vx_L C n d A U H
theorem vx_Zq.moved {C n d : String} {A : Nat → Prop} {u U : State} {H : Heap} (hvm : u.vm.Alike U.vm) (h : vx_Zq C n d A u H) : vx_Zq C n d A U H := ⟨va_Zq.moved hvm h.1, vx_L.moved hvm h.2⟩
theorem vx_Zq.kept {C n d : String} {A : Nat → Prop} {U : State} {H H1 : Heap} (h : vx_Zq C n d A U H) (hq : ∀ a : Nat, a < H.size → ¬ A a → H1[a]? = H[a]?) : vx_Zq C n d A U H1 := ⟨va_Zq.kept h.1 hq, vx_L.kept h.2 hq⟩
theorem vx_Zq.narrow {C n d : String} {A B : Nat → Prop} {U : State} {H : Heap} (h : vx_Zq C n d A U H) (hAB : ∀ q, B q → A q) : vx_Zq C n d B U H := ⟨va_Zq.narrow h.1 hAB, vx_L.narrow h.2 hAB⟩
theorem vx_Zqof {args : Array Value} {s : State} {C n d : String} {A : Nat → Prop} (hl : (Cond.laysStatic C n d).before args s = true) (hini : (Cond.initialized C).before args s = true) (h : (Cond.isRef (.static C n d)).before args s = true) (hA : ∀ a : Nat, a < s.heap.size → ¬ A a) : vx_Zq C n d A s s.heap := by
  refine ⟨va_Zqof hl hini h hA, ?_⟩
  obtain ⟨c, k, i, f, a, cell, h1, h2, h3, h4, h5, h6, h7, h8, h9⟩ := Cond.laysStatic_spec hl
  exact ⟨c, k, i, f, a, cell, h1, h2, h3, h4, h5, h6, h7, h8, h9, hA a (Array.getElem?_eq_some_iff.mp h5).1⟩
theorem vx_isRef {C n d : String} {v : Value} {A : Nat → Prop} {s : State} {args : Array Value} (h : va_Z C n d v A s s.heap) (hv : v.isRef = true) : (Cond.isRef (.static C n d)).before args s = true := by
  obtain ⟨cf, kf, fi, f, a, cell, h1, h2, h3, h4, h5, h6, h7, -⟩ := h
  have he : (Term.static C n d).eval args s none [] s = some v := by
    simp [Term.eval, State.fieldNamed?, h1, h2, h4, h5, h6, h7]
  simp only [Cond.before, Cond.holds, Cond.value, he]
  cases v <;> simp_all [Value.isRef]
theorem vx_isRefq {C n d : String} {A : Nat → Prop} {s : State} {args : Array Value} (h : va_Zq C n d A s s.heap) : (Cond.isRef (.static C n d)).before args s = true := by
  rcases h with h | ⟨t, h⟩
  · exact vx_isRef h rfl
  · exact vx_isRef h rfl
/-- the same frame, seen from here: as if the method were called anew in this heap -/
theorem vx_rebase {T : State} (X : Stand p l e R s m args below meth c T locs cells slots) {R' : Room} (hf : R'.frames ≤ R.frames) (hl : R'.locals ≤ R.locals) (hc : cells + R'.cells ≤ R.cells) (hs : slots + R'.slots ≤ R.slots) :
    Stand p l e R' ((T.setVm s.vm).setFrames (.invoking m args :: below)) m args below meth c T [] 0 0 := by
  have htop : (T.setVm s.vm).topJava?.isSome := X.here.top
  have hF : ((T.setVm s.vm).setFrames (.invoking m args :: below)).frames = .invoking m args :: below := State.frames_setFrames _ (State.cur_lt_of_top htop)
  obtain ⟨g₀, hg0⟩ := Option.isSome_iff_exists.mp htop
  obtain ⟨r, hr⟩ := State.topJava?_eq_some.mp hg0
  have hl9 : e.platform.stackLimits (T.setVm s.vm).me = e.platform.stackLimits s.me := X.limits
  have hb9 : (T.setVm s.vm).me.stackBytes = s.me.stackBytes := X.bytes
  refine ⟨X.admits, X.cas, X.clock, hF, ?_, X.hears, X.method, X.code, X.here, X.tail, X.warmed, ?_, ?_, ?_⟩
  · have h := X.room
    have hU : ((T.setVm s.vm).setFrames (.invoking m args :: below)).localsInUse = s.localsInUse := by
      rw [State.localsInUse_invoking hF (meth := meth) (c := c) X.method X.code, State.localsInUse_invoking X.frames X.method X.code]
    simp only [State.hasRoom, Bool.and_eq_true, decide_eq_true_eq] at h ⊢
    obtain ⟨⟨⟨⟨h1, h2, h3, h4, h5, h6⟩, h7⟩, h8⟩, h9⟩ := h
    rw [X.frames, List.length_cons] at h2 h3
    have q1 := X.heapSize
    have q2 := X.used
    simp only [hF, hU, List.length_cons, State.stackLimits_setFrames, State.stackBytes_setFrames, hl9, hb9]
    refine ⟨⟨⟨⟨by omega, by omega, by omega, by omega, by omega, h6⟩, ?_⟩, ?_⟩, X.book⟩
    · show T.heap.size + R'.cells ≤ e.platform.maxCells
      omega
    · show T.slotsUsed + R'.slots ≤ e.platform.maxSlots
      omega
  · rw [State.stackLimits_setFrames]; rfl
  · rw [State.stackBytes_setFrames]; rfl
  · refine ⟨?_, Nat.le_refl _, Nat.le_refl _, ?_, ?_, fun a c9 h9 => ⟨c9, h9, rfl, rfl, fun _ _ => rfl⟩⟩
    · obtain ⟨t, ht, -⟩ := State.frames_cons hr
      show T.setVm s.vm = { ((T.setVm s.vm).setFrames (.invoking m args :: below)).setFrames (T.setVm s.vm).frames with heap := T.heap, slotsUsed := T.slotsUsed }
      rw [State.setFrames_setFrames, State.setFrames_self ht]
      rfl
    · show T.slotsUsed = T.slotsUsed + ((T.heap.toList.drop T.heap.size).map (·.slots.size)).sum
      rw [List.drop_eq_nil_of_le (Nat.le_of_eq Array.length_toList)]
      rfl
    · show ((T.heap.toList.drop T.heap.size).map (·.slots.size)).sum ≤ 0
      rw [List.drop_eq_nil_of_le (Nat.le_of_eq Array.length_toList)]
      exact Nat.le_refl _
/-- 'throw new E()': new; dup; invokespecial; athrow -/
theorem vx_throw0 {cc : ByteArray} {pc : Nat} (hexec : p.tables.exec = Jvm.exec) (hb : c.code = cc) (hl : l.stackTraces = false) {own cls : String} {names : List String} {ik ic mc ms : Nat} {A : Nat → Prop}
    (hown : s.vm.findClass own = some m.cls) (hcls : Bundle.fit cls = true) (hnames : ∀ n ∈ names, Bundle.fit n = true)
    (hk : (Cond.classLink own ik cls).before args s = true) (hini : (Cond.initialized cls).before args s = true) (hat : ∀ w ∈ vx_at0 own ic cls names, w.before args s = true)
    (hgood : ∀ w ∈ Cond.classLink own ik cls :: Cond.initialized cls :: vx_at0 own ic cls names, vx_ot w = true)
    (hU : vx_Zq Bundle.tN "UNASSIGNED_STACK" Bundle.steD A s s.heap) (hN : vx_Zq Bundle.tN "SUPPRESSED_SENTINEL" Bundle.listD A s s.heap) (hS : va_S A s.heap H locs) (hsize : ls.size = c.maxLocals)
    (d0 : decode cc pc = .ok (.new ik, 3)) (d3 : decode cc (pc + 3) = .ok (.dup, 1)) (d4 : decode cc (pc + 4) = .ok (.invokespecial ic, 3)) (d7 : decode cc (pc + 7) = .ok (.athrow, 1))
    (hout : ∀ x ∈ c.exceptionTable.toList, covers x (pc + 7) = false)
    (hRframes : names.length + 3 < R.frames) (hRlocals : (rest.map fun v => v.category).sum + (13 * (names.length + 1) + 42) ≤ R.locals) (hRcells : cells + 1 ≤ R.cells) (hRslots : slots + 6 ≤ R.slots) (hlocks : meth.locks = false)
    (hx : ∀ t : State, s.vm.Alike t.vm → H.size ≤ t.heap.size → (∀ q : Nat, q < H.size → t.heap[q]? = H[q]?) → XC cls s t)
    (hf : ∀ z ∈ locs, free z.base) (hc : cells + 1 ≤ mc) (hs : slots + 6 ≤ ms) :
    W p l e R s m args below meth c H locs cells slots (vx_MQ below Qc XC args s mc ms free) (F0 m pc ls rest) := by
  intro T hT X
  have htr : e.platform.stackTraces = false := (show e.platform.stackTraces = l.stackTraces by rw [X.admits.platform]).trans hl
  have Y := vx_rebase X (R' := { frames := R.frames, locals := R.locals, cells := 1, slots := 6 }) (Nat.le_refl _) (Nat.le_refl _) hRcells hRslots
  obtain ⟨s', hA⟩ : ∃ z, z = (T.setVm s.vm).setFrames (.invoking m args :: below) := ⟨_, rfl⟩
  rw [← hA] at Y
  have hvm : s'.vm = s.vm := by rw [hA]; rfl
  have hhp : s'.heap = H := by rw [hA]; exact hT
  have hW0 : s.WarmedH s'.vm := by rw [hvm]; exact State.WarmedH.refl s
  have hat' : ∀ w ∈ vx_at0 own ic cls names, w.before args s' = true := fun w hw => vx_ot_at hW0 hvm.symm (hgood w (List.mem_cons_of_mem _ (List.mem_cons_of_mem _ hw))) (hat w hw)
  have hk' : (Cond.classLink own ik cls).before args s' = true := vx_ot_at hW0 hvm.symm (hgood _ List.mem_cons_self) hk
  have hini' : (Cond.initialized cls).before args s' = true := vx_ot_at hW0 hvm.symm (hgood _ (List.mem_cons_of_mem _ List.mem_cons_self)) hini
  have hU' : vx_Zq Bundle.tN "UNASSIGNED_STACK" Bundle.steD A s' s'.heap := by rw [hhp]; exact vx_Zq.moved hW0.alike (hU.kept hS.2.1)
  have hN' : vx_Zq Bundle.tN "SUPPRESSED_SENTINEL" Bundle.listD A s' s'.heap := by rw [hhp]; exact vx_Zq.moved hW0.alike (hN.kept hS.2.1)
  have h : ∀ w ∈ Bundle.ownAtoms0 own ic cls names, w.before args s' = true := vx_own hat' (vx_isRefq hU'.1) (vx_isRefq hN'.1) hU'.2.word hN'.2.word
  have hown' : s'.vm.findClass own = some m.cls := by rw [hvm]; exact hown
  have hins : (Cond.instantiable cls 6).before args s' = true := h _ (by simp [Bundle.ownAtoms0])
  obtain ⟨vm₁, cX, kX, hfX, hkX, -, -, X₁, st1⟩ := Y.newCold hexec (own := own) (C := cls) (index := ik) (n := 6) hown' hk' hins hini'
    (g := F0 m pc ls rest) rfl (by rw [hb]; exact d0) (Nat.le_refl _) (Nat.le_refl _)
  generalize hT1 : (T.setVm vm₁).pushCell { cls := cX, slots := kX.instanceTypes.map defaultValue, vm := .none } = T1 at X₁ st1
  have hcat : (Value.ref T.heap.size).category = 1 := rfl
  have hcellA : T1.heap[T.heap.size]? = some (freshCell cX kX) := by rw [← hT1]; exact State.heap_pushCell_size _ _
  have d3' : decode c.code (pc + 3) = .ok (.dup, 1) := by rw [hb]; exact d3
  obtain ⟨U, hsteps, hrun, hend, hW, hsame, ce, hce, hO⟩ := X₁.ctorThrow0 hexec htr (own := own) (cls := cls) (names := names) (ic := ic) hown' hcls hnames h (fun x hx => nomatch hx) hfX hkX hcellA (by rw [hhp, hT]; exact Nat.le_refl _)
    (g := { method := m, pc := pc + 4, locals := ls, stack := .ref T.heap.size :: .ref T.heap.size :: rest, locked := none }) rfl hsize rfl rfl (rest := rest) rfl
    (by rw [hb]; exact d4) (by rw [hb]; exact d7) hout hRframes (by simp only [List.map_cons, List.sum_cons, hcat]; omega) hlocks
  obtain ⟨f1, f2⟩ := vx_frame hsame
  rw [hhp] at f1 f2
  have hWs : s.WarmedH U.vm := State.WarmedH.trans hW0 hW
  have hcl : s.vm.findClass cls = some ce.cls := by
    have h9 := hO.cls
    rw [hvm] at h9
    exact h9
  have hall : s.sameButNew ({ U with vm := s.vm } : State) locs mc ms := by
    subst hA
    obtain ⟨e1, e2⟩ := hsame
    rw [State.setFrames_setFrames] at e1
    have h2 : (T.setVm s.vm).sameButNew ({ U with vm := s.vm } : State) [] (0 + 1) (0 + 6) := ⟨e1, e2⟩
    have h3 := X.same.trans h2
    rw [List.append_nil] at h3
    exact h3.mono hc hs
  refine ⟨U, ?_, .threw T.heap.size, hrun, hend, Or.inr ⟨T.heap.size, rfl, cls, ce, locs, hx U hWs.alike f1 (fun q hq => f2 q hq (fun z hz => nomatch hz)), hce, hO.vm, hcl, hWs, hall, hf⟩⟩
  refine st1 _ ?_
  show Steps p.tables e below (T1.setTop { method := m, pc := pc + 3, locals := ls, stack := .ref T.heap.size :: rest, locked := none }) _
  jvm_step X₁.here [X₁.here.top, hexec, d3', Value.category]
  exact hsteps
/-- 'throw new E("text")': new; dup; ldc; invokespecial; athrow -/
theorem vx_throwS {cc : ByteArray} {pc : Nat} (hexec : p.tables.exec = Jvm.exec) (hb : c.code = cc) (hl : l.stackTraces = false) {own cls text : String} {names : List String} {ik is ic mc ms sa : Nat} {A : Nat → Prop}
    (hown : s.vm.findClass own = some m.cls) (hcls : Bundle.fit cls = true) (hnames : ∀ n ∈ names, Bundle.fit n = true)
    (hk : (Cond.classLink own ik cls).before args s = true) (hini : (Cond.initialized cls).before args s = true) (hstr : vk_R own is text sa s) (hat : ∀ w ∈ vx_atS own ic cls names, w.before args s = true)
    (hgood : ∀ w ∈ Cond.classLink own ik cls :: Cond.initialized cls :: vx_atS own ic cls names, vx_ot w = true)
    (hU : vx_Zq Bundle.tN "UNASSIGNED_STACK" Bundle.steD A s s.heap) (hN : vx_Zq Bundle.tN "SUPPRESSED_SENTINEL" Bundle.listD A s s.heap) (hS : va_S A s.heap H locs) (hsize : ls.size = c.maxLocals)
    (d0 : decode cc pc = .ok (.new ik, 3)) (d3 : decode cc (pc + 3) = .ok (.dup, 1)) (d4 : decode cc (pc + 4) = .ok (.ldc is, 2)) (d6 : decode cc (pc + 6) = .ok (.invokespecial ic, 3)) (d9 : decode cc (pc + 9) = .ok (.athrow, 1))
    (hout : ∀ x ∈ c.exceptionTable.toList, covers x (pc + 9) = false)
    (hRframes : names.length + 3 < R.frames) (hRlocals : (rest.map fun v => v.category).sum + (13 * (names.length + 1) + 43) ≤ R.locals) (hRcells : cells + 1 ≤ R.cells) (hRslots : slots + 6 ≤ R.slots) (hlocks : meth.locks = false)
    (hx : ∀ t : State, s.vm.Alike t.vm → H.size ≤ t.heap.size → (∀ q : Nat, q < H.size → t.heap[q]? = H[q]?) → XC cls s t)
    (hf : ∀ z ∈ locs, free z.base) (hc : cells + 1 ≤ mc) (hs : slots + 6 ≤ ms) :
    W p l e R s m args below meth c H locs cells slots (vx_MQ below Qc XC args s mc ms free) (F0 m pc ls rest) := by
  intro T hT X
  have htr : e.platform.stackTraces = false := (show e.platform.stackTraces = l.stackTraces by rw [X.admits.platform]).trans hl
  have Y := vx_rebase X (R' := { frames := R.frames, locals := R.locals, cells := 1, slots := 6 }) (Nat.le_refl _) (Nat.le_refl _) hRcells hRslots
  obtain ⟨s', hA⟩ : ∃ z, z = (T.setVm s.vm).setFrames (.invoking m args :: below) := ⟨_, rfl⟩
  rw [← hA] at Y
  have hvm : s'.vm = s.vm := by rw [hA]; rfl
  have hhp : s'.heap = H := by rw [hA]; exact hT
  have hW0 : s.WarmedH s'.vm := by rw [hvm]; exact State.WarmedH.refl s
  have hat' : ∀ w ∈ vx_atS own ic cls names, w.before args s' = true := fun w hw => vx_ot_at hW0 hvm.symm (hgood w (List.mem_cons_of_mem _ (List.mem_cons_of_mem _ hw))) (hat w hw)
  have hk' : (Cond.classLink own ik cls).before args s' = true := vx_ot_at hW0 hvm.symm (hgood _ List.mem_cons_self) hk
  have hini' : (Cond.initialized cls).before args s' = true := vx_ot_at hW0 hvm.symm (hgood _ (List.mem_cons_of_mem _ List.mem_cons_self)) hini
  have hU' : vx_Zq Bundle.tN "UNASSIGNED_STACK" Bundle.steD A s' s'.heap := by rw [hhp]; exact vx_Zq.moved hW0.alike (hU.kept hS.2.1)
  have hN' : vx_Zq Bundle.tN "SUPPRESSED_SENTINEL" Bundle.listD A s' s'.heap := by rw [hhp]; exact vx_Zq.moved hW0.alike (hN.kept hS.2.1)
  have h : ∀ w ∈ Bundle.ownAtoms own ic cls names, w.before args s' = true := vx_own hat' (vx_isRefq hU'.1) (vx_isRefq hN'.1) hU'.2.word hN'.2.word
  have hown' : s'.vm.findClass own = some m.cls := by rw [hvm]; exact hown
  have hins : (Cond.instantiable cls 6).before args s' = true := h _ (by simp [Bundle.ownAtoms])
  obtain ⟨vm₁, cX, kX, hfX, hkX, -, -, X₁, st1⟩ := Y.newCold hexec (own := own) (C := cls) (index := ik) (n := 6) hown' hk' hins hini'
    (g := F0 m pc ls rest) rfl (by rw [hb]; exact d0) (Nat.le_refl _) (Nat.le_refl _)
  generalize hT1 : (T.setVm vm₁).pushCell { cls := cX, slots := kX.instanceTypes.map defaultValue, vm := .none } = T1 at X₁ st1
  have hcat : (Value.ref T.heap.size).category = 1 := rfl
  have hcellA : T1.heap[T.heap.size]? = some (freshCell cX kX) := by rw [← hT1]; exact State.heap_pushCell_size _ _
  have d3' : decode c.code (pc + 3) = .ok (.dup, 1) := by rw [hb]; exact d3
  have d4' : decode c.code (pc + 4) = .ok (.ldc is, 2) := by rw [hb]; exact d4
  have hstr' : vk_R own is text sa s' := vk_R.warm hW0 hstr
  obtain ⟨U, hsteps, hrun, hend, hW, hsame, ce, hce, hO⟩ := X₁.ctorThrowS hexec htr (own := own) (cls := cls) (names := names) (ic := ic) hown' hcls hnames h (fun x hx => nomatch hx) hfX hkX hcellA (by rw [hhp, hT]; exact Nat.le_refl _) (msg := .ref sa) rfl
    (g := { method := m, pc := pc + 6, locals := ls, stack := .ref sa :: .ref T.heap.size :: .ref T.heap.size :: rest, locked := none }) rfl hsize rfl rfl (rest := rest) rfl
    (by rw [hb]; exact d6) (by rw [hb]; exact d9) hout hRframes (by simp only [List.map_cons, List.sum_cons, hcat]; omega) hlocks
  obtain ⟨f1, f2⟩ := vx_frame hsame
  rw [hhp] at f1 f2
  have hWs : s.WarmedH U.vm := State.WarmedH.trans hW0 hW
  have hcl : s.vm.findClass cls = some ce.cls := by
    have h9 := hO.cls
    rw [hvm] at h9
    exact h9
  have hall : s.sameButNew ({ U with vm := s.vm } : State) locs mc ms := by
    subst hA
    obtain ⟨e1, e2⟩ := hsame
    rw [State.setFrames_setFrames] at e1
    have h2 : (T.setVm s.vm).sameButNew ({ U with vm := s.vm } : State) [] (0 + 1) (0 + 6) := ⟨e1, e2⟩
    have h3 := X.same.trans h2
    rw [List.append_nil] at h3
    exact h3.mono hc hs
  refine ⟨U, ?_, .threw T.heap.size, hrun, hend, Or.inr ⟨T.heap.size, rfl, cls, ce, locs, hx U hWs.alike f1 (fun q hq => f2 q hq (fun z hz => nomatch hz)), hce, hO.vm, hcl, hWs, hall, hf⟩⟩
  refine st1 _ ?_
  show Steps p.tables e below (T1.setTop { method := m, pc := pc + 3, locals := ls, stack := .ref T.heap.size :: rest, locked := none }) _
  jvm_step X₁.here [X₁.here.top, hexec, d3', Value.category]
  exact X₁.ldcString hexec (own := own) (text := text) (index := is) (a := sa) hown' hstr'.1 hstr'.2
    (g := { method := m, pc := pc + 4, locals := ls, stack := .ref T.heap.size :: .ref T.heap.size :: rest, locked := none }) rfl d4' _ hsteps
/-- 'throw new E("text")', the text by a wide index -/
theorem vx_throwSW {cc : ByteArray} {pc : Nat} (hexec : p.tables.exec = Jvm.exec) (hb : c.code = cc) (hl : l.stackTraces = false) {own cls text : String} {names : List String} {ik is ic mc ms sa : Nat} {A : Nat → Prop}
    (hown : s.vm.findClass own = some m.cls) (hcls : Bundle.fit cls = true) (hnames : ∀ n ∈ names, Bundle.fit n = true)
    (hk : (Cond.classLink own ik cls).before args s = true) (hini : (Cond.initialized cls).before args s = true) (hstr : vk_R own is text sa s) (hat : ∀ w ∈ vx_atS own ic cls names, w.before args s = true)
    (hgood : ∀ w ∈ Cond.classLink own ik cls :: Cond.initialized cls :: vx_atS own ic cls names, vx_ot w = true)
    (hU : vx_Zq Bundle.tN "UNASSIGNED_STACK" Bundle.steD A s s.heap) (hN : vx_Zq Bundle.tN "SUPPRESSED_SENTINEL" Bundle.listD A s s.heap) (hS : va_S A s.heap H locs) (hsize : ls.size = c.maxLocals)
    (d0 : decode cc pc = .ok (.new ik, 3)) (d3 : decode cc (pc + 3) = .ok (.dup, 1)) (d4 : decode cc (pc + 4) = .ok (.ldc_w is, 3)) (d7 : decode cc (pc + 7) = .ok (.invokespecial ic, 3)) (d10 : decode cc (pc + 10) = .ok (.athrow, 1))
    (hout : ∀ x ∈ c.exceptionTable.toList, covers x (pc + 10) = false)
    (hRframes : names.length + 3 < R.frames) (hRlocals : (rest.map fun v => v.category).sum + (13 * (names.length + 1) + 43) ≤ R.locals) (hRcells : cells + 1 ≤ R.cells) (hRslots : slots + 6 ≤ R.slots) (hlocks : meth.locks = false)
    (hx : ∀ t : State, s.vm.Alike t.vm → H.size ≤ t.heap.size → (∀ q : Nat, q < H.size → t.heap[q]? = H[q]?) → XC cls s t)
    (hf : ∀ z ∈ locs, free z.base) (hc : cells + 1 ≤ mc) (hs : slots + 6 ≤ ms) :
    W p l e R s m args below meth c H locs cells slots (vx_MQ below Qc XC args s mc ms free) (F0 m pc ls rest) := by
  intro T hT X
  have htr : e.platform.stackTraces = false := (show e.platform.stackTraces = l.stackTraces by rw [X.admits.platform]).trans hl
  have Y := vx_rebase X (R' := { frames := R.frames, locals := R.locals, cells := 1, slots := 6 }) (Nat.le_refl _) (Nat.le_refl _) hRcells hRslots
  obtain ⟨s', hA⟩ : ∃ z, z = (T.setVm s.vm).setFrames (.invoking m args :: below) := ⟨_, rfl⟩
  rw [← hA] at Y
  have hvm : s'.vm = s.vm := by rw [hA]; rfl
  have hhp : s'.heap = H := by rw [hA]; exact hT
  have hW0 : s.WarmedH s'.vm := by rw [hvm]; exact State.WarmedH.refl s
  have hat' : ∀ w ∈ vx_atS own ic cls names, w.before args s' = true := fun w hw => vx_ot_at hW0 hvm.symm (hgood w (List.mem_cons_of_mem _ (List.mem_cons_of_mem _ hw))) (hat w hw)
  have hk' : (Cond.classLink own ik cls).before args s' = true := vx_ot_at hW0 hvm.symm (hgood _ List.mem_cons_self) hk
  have hini' : (Cond.initialized cls).before args s' = true := vx_ot_at hW0 hvm.symm (hgood _ (List.mem_cons_of_mem _ List.mem_cons_self)) hini
  have hU' : vx_Zq Bundle.tN "UNASSIGNED_STACK" Bundle.steD A s' s'.heap := by rw [hhp]; exact vx_Zq.moved hW0.alike (hU.kept hS.2.1)
  have hN' : vx_Zq Bundle.tN "SUPPRESSED_SENTINEL" Bundle.listD A s' s'.heap := by rw [hhp]; exact vx_Zq.moved hW0.alike (hN.kept hS.2.1)
  have h : ∀ w ∈ Bundle.ownAtoms own ic cls names, w.before args s' = true := vx_own hat' (vx_isRefq hU'.1) (vx_isRefq hN'.1) hU'.2.word hN'.2.word
  have hown' : s'.vm.findClass own = some m.cls := by rw [hvm]; exact hown
  have hins : (Cond.instantiable cls 6).before args s' = true := h _ (by simp [Bundle.ownAtoms])
  obtain ⟨vm₁, cX, kX, hfX, hkX, -, -, X₁, st1⟩ := Y.newCold hexec (own := own) (C := cls) (index := ik) (n := 6) hown' hk' hins hini'
    (g := F0 m pc ls rest) rfl (by rw [hb]; exact d0) (Nat.le_refl _) (Nat.le_refl _)
  generalize hT1 : (T.setVm vm₁).pushCell { cls := cX, slots := kX.instanceTypes.map defaultValue, vm := .none } = T1 at X₁ st1
  have hcat : (Value.ref T.heap.size).category = 1 := rfl
  have hcellA : T1.heap[T.heap.size]? = some (freshCell cX kX) := by rw [← hT1]; exact State.heap_pushCell_size _ _
  have d3' : decode c.code (pc + 3) = .ok (.dup, 1) := by rw [hb]; exact d3
  have d4' : decode c.code (pc + 4) = .ok (.ldc_w is, 3) := by rw [hb]; exact d4
  have hstr' : vk_R own is text sa s' := vk_R.warm hW0 hstr
  obtain ⟨U, hsteps, hrun, hend, hW, hsame, ce, hce, hO⟩ := X₁.ctorThrowS hexec htr (own := own) (cls := cls) (names := names) (ic := ic) hown' hcls hnames h (fun x hx => nomatch hx) hfX hkX hcellA (by rw [hhp, hT]; exact Nat.le_refl _) (msg := .ref sa) rfl
    (g := { method := m, pc := pc + 7, locals := ls, stack := .ref sa :: .ref T.heap.size :: .ref T.heap.size :: rest, locked := none }) rfl hsize rfl rfl (rest := rest) rfl
    (by rw [hb]; exact d7) (by rw [hb]; exact d10) hout hRframes (by simp only [List.map_cons, List.sum_cons, hcat]; omega) hlocks
  obtain ⟨f1, f2⟩ := vx_frame hsame
  rw [hhp] at f1 f2
  have hWs : s.WarmedH U.vm := State.WarmedH.trans hW0 hW
  have hcl : s.vm.findClass cls = some ce.cls := by
    have h9 := hO.cls
    rw [hvm] at h9
    exact h9
  have hall : s.sameButNew ({ U with vm := s.vm } : State) locs mc ms := by
    subst hA
    obtain ⟨e1, e2⟩ := hsame
    rw [State.setFrames_setFrames] at e1
    have h2 : (T.setVm s.vm).sameButNew ({ U with vm := s.vm } : State) [] (0 + 1) (0 + 6) := ⟨e1, e2⟩
    have h3 := X.same.trans h2
    rw [List.append_nil] at h3
    exact h3.mono hc hs
  refine ⟨U, ?_, .threw T.heap.size, hrun, hend, Or.inr ⟨T.heap.size, rfl, cls, ce, locs, hx U hWs.alike f1 (fun q hq => f2 q hq (fun z hz => nomatch hz)), hce, hO.vm, hcl, hWs, hall, hf⟩⟩
  refine st1 _ ?_
  show Steps p.tables e below (T1.setTop { method := m, pc := pc + 3, locals := ls, stack := .ref T.heap.size :: rest, locked := none }) _
  jvm_step X₁.here [X₁.here.top, hexec, d3', Value.category]
  exact X₁.ldcStringW hexec (own := own) (text := text) (index := is) (a := sa) hown' hstr'.1 hstr'.2
    (g := { method := m, pc := pc + 4, locals := ls, stack := .ref T.heap.size :: .ref T.heap.size :: rest, locked := none }) rfl d4' _ hsteps
end Ends
section Bodies
variable {l : Launch}
theorem vx_ofW {y : MethodName} {ws ws' : List Cond} {rm : Room} {Pc : Array Value → State → Prop} {Qc : Array Value → State → Outcome → State → Prop} {XC : String → State → State → Prop} {mc ms : Nat} {free : Addr → Prop} {cc : ByteArray} {maxL : Nat} {ret : Option FieldType}
    (hy : plainName y.cls = true) (hw : ws = Cond.code y cc maxL ret :: ws')
    (body : ∀ p e s m args below meth c s₁, BodyLoose p l y (headSpec ws rm) cc maxL ret e s m args below meth c s₁ → c.maxLocals = maxL → (∀ x ∈ c.exceptionTable.toList, False) → Pc args s →
      W p l e (headSpec ws rm).room s m args below meth c s.heap [] 0 0 (vx_MQ below Qc XC args s mc ms free) (entryFrame m args maxL)) : vx_Met l y ws rm Pc Qc XC mc ms free := by
  refine MetFree.of_bodyS (code := cc) (maxLocals := maxL) (ret := ret) hy ?_ ?_
  · intro args s m h hn
    obtain ⟨meth, c, h1, h2, h3, h4, h5, h6, -, -⟩ := Cond.code_spec hn (atoms_spec (ws := ws) h _ (by rw [hw]; exact List.mem_cons_self))
    exact ⟨meth, c, h1, h2, h3, h4, h5, h6⟩
  · intro p e s m args below meth c s₁ B hml hP _
    have hh0 : s₁.heap = s.heap := by rw [B.state]; rfl
    have ht : ∀ x ∈ c.exceptionTable.toList, False := by
      obtain ⟨meth9, c9, h1, h2, -, -, -, -, h7, -⟩ := Cond.code_spec B.named (atoms_spec (ws := ws) B.pre _ (by rw [hw]; exact List.mem_cons_self))
      cases Option.some.inj (h1.symm.trans B.method)
      cases Option.some.inj (h2.symm.trans (Stand.of_body B).code)
      intro x hx
      rw [Array.isEmpty_iff.mp h7] at hx
      cases hx
    obtain ⟨t, a1, o, b1, b2, b3⟩ := body p e s m args below meth c s₁ B hml ht hP s₁ hh0 (Stand.of_body B)
    exact ⟨t, o, a1, b1, b2, b3⟩
/-- the table of a body with handlers -/
theorem vx_table {p : Program} {x y : MethodName} {S : Spec} {cc bytes : ByteArray} {maxL maxL' : Nat} {ret ret' : Option FieldType} {e : Env} {s s₁ : State} {m : MethodId} {args : Array Value} {below : List Frame} {meth : Method} {c : Code} {hh : List (Nat × Nat × Nat × Nat)}
    (B : BodyLoose p l y S cc maxL ret e s m args below meth c s₁) (h : (Cond.codeWith y bytes maxL' ret' hh).before args s = true) : c.exceptionTable.toList = tableOf hh := by
  obtain ⟨m9, meth9, c9, hn9, h1, h2, -, -, h6, -⟩ := Cond.codeWith_spec h
  cases Option.some.inj (hn9.symm.trans B.named)
  cases Option.some.inj (h1.symm.trans B.method)
  cases Option.some.inj (h2.symm.trans (Stand.of_body B).code)
  rw [← h6, table_eq]
end Bodies
end VXA
/-! ===== END ===== -/
/-! ===== BEGIN a static call of a method with an exception table ===== -/
section VXS
variable {p : Program} {l : Launch} {e : Env} {R : Room} {s : State} {m : MethodId} {args : Array Value} {below : List Frame} {meth : Method} {c : Code} {T : State} {H : Heap} {locs : List Loc} {cells slots : Nat}
abbrev vx_CSW (R : Room) (s : State) (args : Array Value) (own : String) (index : Nat) (y : MethodName) (bytes : ByteArray) (maxL : Nat) (ret : Option FieldType) (hh : List (Nat × Nat × Nat × Nat)) (ws : List Cond) (rm : Room) (mc ms n : Nat) : Prop :=
  (rm.cells = mc ∧ rm.slots = ms ∧ rm.frames + 1 ≤ R.frames ∧ 8 + (maxL + 11) + rm.locals ≤ R.locals ∧ (∀ w ∈ ws, ∀ (a' : Array Value) (U : State), s.WarmedH U.vm → w.before a' U = true) ∧ Cond.codeWith y bytes maxL ret hh ∈ ws) ∧
  (Cond.codeWith y bytes maxL ret hh).before args s = true ∧ (Cond.initialized y.cls).before args s = true ∧ (y.cls ≠ "java/lang/invoke/MethodHandle" ∧ y.cls ≠ "java/lang/invoke/VarHandle") ∧
  (∀ sig, parseMethodDescriptor y.desc = some sig → n = sig.parameters.length) ∧ (Cond.methodLink own index y).before args s = true ∧ (Cond.static y).before args s = true
theorem vx_cwSW {own : String} {index maxL mc ms : Nat} {y : MethodName} {bytes : ByteArray} {ret : Option FieldType} {hh : List (Nat × Nat × Nat × Nat)} {Ts ws ws' : List Cond} {rm : Room} (n : Nat) (ht : ∀ w ∈ Ts, w.before args s = true) (hT : GoodIn Ts (va_wsS own index y ws)) (hw : ws = Cond.codeWith y bytes maxL ret hh :: ws') (hrc : rm.cells = mc) (hrs : rm.slots = ms)
    (hd : y.cls ≠ "java/lang/invoke/MethodHandle" ∧ y.cls ≠ "java/lang/invoke/VarHandle" ∧ (parseMethodDescriptor y.desc).map (fun d => d.parameters.length) = some n) (hR : rm.frames + 1 ≤ R.frames ∧ 8 + (maxL + 11) + rm.locals ≤ R.locals) :
    vx_CSW R s args own index y bytes maxL ret hh ws rm mc ms n := by
  have ok : ∀ w ∈ va_wsS own index y ws, w.before args s = true := fun w h => ht w (hT w h).1
  have hG : GoodIn Ts ws := fun w h => hT w (by unfold va_wsS; exact List.mem_append_right _ h)
  have hc : Cond.codeWith y bytes maxL ret hh ∈ ws := by rw [hw]; exact List.mem_cons_self
  refine ⟨⟨hrc, hrs, hR.1, hR.2, pay_in ht hG, hc⟩, ht _ (hG _ hc).1, ok _ (by simp [va_wsS]), ⟨hd.1, hd.2.1⟩, fun sig h => ?_, ok _ (by simp [va_wsS]), ok _ (by simp [va_wsS])⟩
  have h2 := hd.2.2
  rw [h] at h2
  exact (Option.some.inj h2).symm
theorem vx_callSW (X : Stand p l e R s m args below meth c T locs cells slots) (hexec : p.tables.exec = Jvm.exec) {own : String} {index : Nat} {y : MethodName} {bytes : ByteArray} {maxL : Nat} {ret : Option FieldType} {hh : List (Nat × Nat × Nat × Nat)}
    (hown : s.vm.findClass own = some m.cls) (hlink : (Cond.methodLink own index y).before args s = true) (hstat : (Cond.static y).before args s = true) (hinit : (Cond.initialized y.cls).before args s = true)
    (hcode : (Cond.codeWith y bytes maxL ret hh).before args s = true) (hy : y.cls ≠ "java/lang/invoke/MethodHandle" ∧ y.cls ≠ "java/lang/invoke/VarHandle")
    {W9 : Nat} {Pre : Pt → Array Value → Prop} {Post : Pt → Array Value → Option Value → Pt → Prop} (hK : Back l R p e below s args y 3 W9 Pre Post)
    {g : JFrame} (hg : g.method = m) (hsize : g.locals.size = c.maxLocals) {argsL rest : List Value} (hlen : ∀ sig, parseMethodDescriptor y.desc = some sig → argsL.length = sig.parameters.length)
    (hstack : g.stack = argsL.reverse ++ rest) (hW : 2 * g.monitorRoom + (rest.map fun v => v.category).sum ≤ W9) (hdg : decode c.code g.pc = .ok (.invokestatic index, 3))
    (hpre : ∀ vm₁, s.WarmedH vm₁ → Pre ⟨T.setVm vm₁, locs, cells, slots⟩ argsL.toArray) :
    ∃ (v : Option Value) (vm₁ : Vm) (B : Pt), s.WarmedH vm₁ ∧ Stand p l e R s m args below meth c B.U B.locs B.cells B.slots ∧ Post ⟨T.setVm vm₁, locs, cells, slots⟩ argsL.toArray v B ∧
      ∀ target, Steps p.tables e below (B.U.setTop { g with pc := g.pc + 3, stack := v.toList ++ rest }) target → Steps p.tables e below (T.setTop g) target := by
  obtain ⟨mk, methM, cM, hnamed, hmethM, -, -, -, -, -, -, hsigM⟩ := Cond.codeWith_spec hcode
  have hstatic : methM.isStatic = true := Cond.static_spec hnamed hmethM hstat
  obtain ⟨kP, hkP, -⟩ := className_of_methodNamed hnamed
  have hinitP : kP.init = .initialized := Cond.initialized_spec (findClass_of_methodNamed hnamed) hkP hinit
  obtain ⟨vm₁, X₁, hstep₁⟩ := X.invokestatic hexec hown hlink hnamed hmethM hstatic hkP hinitP hy (g := g) hg (argsL := argsL) (rest := rest) (hlen _ hsigM) hstack hdg
  obtain ⟨v, B, X', hpost, hsteps⟩ := hK m meth c ⟨T.setVm vm₁, locs, cells, slots⟩ { g with stack := rest } (.invokestatic index) mk argsL.toArray X₁ hg hsize hdg hW (X₁.named hnamed) (hpre vm₁ X₁.warmed)
  exact ⟨v, vm₁, B, X₁.warmed, X', hpost, fun target h => hstep₁ _ fun acts => by rw [doInvoke_state]; exact hsteps.trans h⟩
theorem vx_runSW {y : MethodName} {bytes cc : ByteArray} {maxL nL mc ms n index : Nat} {ret : Option FieldType} {hh : List (Nat × Nat × Nat × Nat)} {ws : List Cond} {rm : Room} {Pc : Array Value → State → Prop} {Qc : Array Value → State → Outcome → State → Prop} {free : Addr → Prop} {Ts : List Cond} {own : String} {As rest : List Value} {g : JFrame}
    (S : CallFix p m c cc nL s args Ts own) (hM : Met l y ws rm Pc Qc mc ms free) (cw : vx_CSW R s args own index y bytes maxL ret hh ws rm mc ms n) (hp : PreS s H Pc As)
    (hg : g.method = m) (hn : As.length = n) (hsize : g.locals.size = nL) (hstack : g.stack = As.reverse ++ rest) (hW : 2 * g.monitorRoom + (rest.map fun v => v.category).sum ≤ 8) (hdg : decode cc g.pc = .ok (.invokestatic index, 3)) (hf : cells + mc ≤ R.cells ∧ slots + ms ≤ R.slots) :
    va_Run p l e R s m args below meth c H locs cells slots mc ms g rest (Qc As.toArray) (free) := by
  obtain ⟨⟨hrc, hrs, hfr, hlo, hws, hcw⟩, hcode, hini, hy, hlen, hl, hstt⟩ := cw
  have hK : Back l R p e below s args y 3 8 (PreOf R mc ms Pc) (PostOf Qc mc ms free) := va_backW (hh := hh) (bytes := bytes) (maxL := maxL) (ret := ret) hM hp.1 hrc hrs hfr hlo hws hcw (fun a' U hW => word_at hW (Or.inl (by first | rfl | simp [Cond.onTables, Cond.keeps, Cond.steady])) hini)
  obtain ⟨hx, hb, hml, ho, -⟩ := S
  intro T hT X
  obtain ⟨v, vm₁, ⟨U', l2, c2, s2⟩, hW₁, X', ⟨g', mk, t, L, e1, e2, hq, h1, hL, h2, h3⟩, st⟩ := vx_callSW X hx (hh := hh) (bytes := bytes) (maxL := maxL) (ret := ret) ho hl hstt hini hcode hy hK hg (hsize.trans hml.symm) (argsL := As) (rest := rest) (fun sig h => hn.trans (hlen sig h)) hstack hW (by rw [hb]; exact hdg)
    (fun vm₁ hW₁ => ⟨hf.1, hf.2, hp.2 (T.setVm vm₁) hT hW₁⟩)
  dsimp only [Pt.U, Pt.locs, Pt.cells, Pt.slots] at X' e1 e2 h1 h2 h3 st
  subst h1; subst h2; subst h3
  exact ⟨v, (T.setVm vm₁).calling g' mk As.toArray, t, U', L, hT, X', hL, e1, e2, hq, st⟩
/-- not caught here, past rows that name other classes: it goes on to the caller -/
theorem vx_outP {p : Program} {l : Launch} {e : Env} {R : Room} {s : State} {m : MethodId} {args : Array Value} {below : List Frame} {meth : Method} {c : Code} {H : Heap} {locs : List Loc} {cells slots : Nat} {free : Addr → Prop} {ls : Array Slot} {rest : List Value} {Qc : Array Value → State → Outcome → State → Prop} {XC : String → State → State → Prop}
    {pc : Nat} {own E : String} {ce : Cell} {q : Addr} {mc ms : Nat} (hown : s.vm.findClass own = some m.cls) (hlocks : meth.locks = false)
    (hpass : ∀ z ∈ c.exceptionTable.toList, covers z pc = false ∨ (z.catchType ≠ 0 ∧ ∃ nm : String, (Cond.classLink own z.catchType nm).before args s = true ∧ va_Nc E nm s)) (hcell : H[q]? = some ce) (hv : ce.vm = .none) (hcl : s.vm.findClass E = some ce.cls)
    (hx : ∀ t : State, t.heap = H → s.vm.Alike t.vm → XC E s t) (hf : ∀ z ∈ locs, free z.base) (hc : cells ≤ mc) (hs : slots ≤ ms) :
    vx_W p l e R s m args below meth c H locs cells slots (vx_MQ below Qc XC args s mc ms free) (F0 m pc ls rest) q := by
  intro T hT X
  have hpl : e.platform.magicAccessors = ({} : Platform).magicAccessors := by rw [X.admits.platform]
  obtain ⟨vm', hW', X', st⟩ := X.outThrough hlocks q (g := F0 m pc ls rest) rfl rfl rfl (cell := ce) (by rw [hT]; exact hcell) (by rw [hv]; rfl)
    (by obtain ⟨k9, h9, -⟩ := Vm.findClass_spec hcl; exact ⟨k9, h9⟩) (fun z hz => by
      rcases hpass z hz with h | ⟨hz0, nm, hl1, hn1⟩
      · exact Or.inl h
      · obtain ⟨c6, hc6, hcl6⟩ := Cond.classLink_spec hown hl1 e.platform hpl
        obtain ⟨a8, b8, h1, h2, h3⟩ := hn1
        cases Option.some.inj (h1.symm.trans hcl)
        cases Option.some.inj (h2.symm.trans hc6)
        exact Or.inr ⟨hz0, _, hcl6, h3⟩)
  obtain ⟨g₀, hfr⟩ := X'.frames_eq
  have hcell9 : ((T.setVm vm').setFrames (.throwing q :: below)).heap[q]? = some ce := by
    show T.heap[q]? = some ce
    rw [hT]; exact hcell
  have hend : Ended ((T.setVm vm').setFrames (.throwing q :: below)) below (.threw q) := State.frames_setFrames _ (State.cur_lt_of_frames hfr)
  refine ⟨(T.setVm vm').setFrames (.throwing q :: below), ?_, .threw q, X'.here.running, hend, Or.inr ⟨q, rfl, E, ce, locs, hx _ hT (X'.ends _).1.alike, hcell9, hv, hcl, (X'.ends _).1, (X'.ends _).2.mono hc hs, hf⟩⟩
  rw [X.pushThrowing_eq]
  exact st
/-- a thing of a world lies in the heap -/
theorem vx_lt {D : va_G} {cl : List vw_C} {ws : va_W} {H1 : Heap} (h : va_P D cl ws H1) {k : Nat} {q : Nat × va_E} (hk : ws[k]? = some q) : q.1 < H1.size := (h k q hk).lt
end VXS
/-! ===== END ===== -/
/-! ===== BEGIN methods with a table of their own: called by a name, returning or throwing ===== -/
section VXH
/-! vx_backW, vx_callVX, vx_callSX, vx_callVW, vx_runVW, vx_runVX, vx_runSX, vx_ofWH follow the same proofs as their sisters above (Free/Laws.lean, Shelf42/LK1.lean); vx_outP calls Shelf42/NT130.lean (outThrough). -/
section
variable {l : Launch} {R : Room} {p : Program} {e : Env} {below : List Frame} {s : State} {sargs : Array Value} {y : MethodName} {len W9 : Nat}
theorem vx_backW {ws : List Cond} {rm : Room} {Pc : Array Value → State → Prop} {Qc : Array Value → State → Outcome → State → Prop} {XC : String → State → State → Prop} {mc ms : Nat} {free : Addr → Prop} {bytes : ByteArray} {maxL : Nat} {ret : Option FieldType} {hh : List (Nat × Nat × Nat × Nat)}
    (hM : vx_Met l y ws rm Pc Qc XC mc ms free) (hblind : FrameBlind Pc) (hrc : rm.cells = mc) (hrs : rm.slots = ms)
    (hframes : rm.frames + 1 ≤ R.frames) (hlocals : W9 + (maxL + 11) + rm.locals ≤ R.locals)
    (hws : ∀ w ∈ ws, ∀ a' U, s.WarmedH U.vm → w.before a' U = true) (hcode : Cond.codeWith y bytes maxL ret hh ∈ ws) (hinit : ∀ a' U, s.WarmedH U.vm → (Cond.initialized y.cls).before a' U = true) :
    vx_Back l R p e below s sargs y len W9 (PreOf R mc ms Pc) (PostOf Qc mc ms free) (vx_Post XC mc ms free) := by
  intro m meth c A g ig mk a X hg hsize hdg hW hn hp
  have h1 : (headSpec ws rm).pre.before a A.U = true := atoms_intro fun w hw => hws w hw _ _ X.warmed
  have h2 : (Cond.codeWith y bytes maxL ret hh).before a A.U = true := hws _ hcode _ _ X.warmed
  have h3 : (Cond.initialized y.cls).before a A.U = true := hinit _ _ X.warmed
  have h4 : A.cells + (headSpec ws rm).room.cells ≤ R.cells := by rw [show (headSpec ws rm).room.cells = mc from hrc]; exact hp.1
  have h5 : A.slots + (headSpec ws rm).room.slots ≤ R.slots := by rw [show (headSpec ws rm).room.slots = ms from hrs]; exact hp.2.1
  have hPc : Pc a (A.U.calling g mk a) := hblind _ _ _ _ hp.2.2
  obtain ⟨U, Ls, c0, s0⟩ := A
  dsimp only [Pt.U, Pt.locs, Pt.cells, Pt.slots] at h1 h2 h3 h4 h5 X hn hPc ⊢
  obtain ⟨m9, methY, cY, hn9, hmY, hcY, -, hlY, -⟩ := Cond.codeWith_spec h2
  cases Option.some.inj (hn9.symm.trans hn)
  obtain ⟨kY, hkY, -⟩ := className_of_methodNamed hn
  have hinitY : kY.init = .initialized := Cond.initialized_spec (findClass_of_methodNamed hn) hkY h3
  have h : At U g.method c below := by rw [hg]; exact X.here
  have hlocals9 : W9 + (maxL + 11) + (headSpec ws rm).room.locals ≤ R.locals := hlocals
  have happ : (headSpec ws rm).appliesLoose y e.platform (U.calling g mk a) = true :=
    Spec.appliesLoose_calling (g := g) h hdg hn hkY hinitY
      (X.room_calling (g := g) (R' := (headSpec ws rm).room) hsize hmY hcY hframes (by rw [hlY]; omega) h4 h5) h1
  obtain ⟨mid, hmid⟩ := h.above
  have hfr : (U.setTop g).frames = (.java g :: mid) ++ below := by rw [State.frames_setTop' g h.top, hmid]; rfl
  obtain ⟨o, s₂, hsteps, -, hend, hq⟩ := Steps.callFree hM p X.admits X.cas X.clock (acts := []) hfr happ hPc trivial
  have hq' : vx_Q Qc XC mc ms free a (U.calling g mk a) o s₂ := hq
  rw [State.frames_setTop' g h.top] at hend
  obtain ⟨g₀, hg0⟩ := Option.isSome_iff_exists.mp h.top
  obtain ⟨r, hr⟩ := State.topJava?_eq_some.mp hg0
  have hr' : (({ U with heap := s₂.heap, slotsUsed := s₂.slotsUsed } : State).setVm s₂.vm).frames = .java g₀ :: r := hr
  rcases hq' with ⟨hqc, L, hfe, hL⟩ | ⟨q, rfl, E, ce, L, hx, hce, hcv, hcl, hW₂, hsm, hL⟩
  · obtain ⟨⟨v, rfl⟩, hW₂, e2, q2, q3, q4, q5, q6⟩ := id hfe
    have e3 : s₂ = ({ (U.calling g mk a).setFrames s₂.frames with heap := s₂.heap, slotsUsed := s₂.slotsUsed } : State).setVm s₂.vm := by
      have : s₂ = ({ s₂ with vm := (U.calling g mk a).vm } : State).setVm s₂.vm := rfl
      rw [e2] at this
      exact this
    obtain ⟨c₂, i₂, len₂, hc₂, hd₂, hf₂⟩ := hend
    have hW' : U.WarmedH s₂.vm := hW₂
    have hcc : c₂ = c := by
      have h1 : s₂.code? g.method = U.code? g.method := by
        rw [State.code?_eq, State.code?_eq, hW'.alike.method?]
      exact Option.some.inj (hc₂.symm.trans (h1.trans h.code))
    subst hcc
    have hlen : len₂ = len := by rw [hdg] at hd₂; cases hd₂; rfl
    subst hlen
    have hs₂ : s₂ = (({ U with heap := s₂.heap, slotsUsed := s₂.slotsUsed } : State).setVm s₂.vm).setTop { g with pc := g.pc + len₂, stack := v.toList ++ g.stack } := by
      refine e3.trans ?_
      rw [hf₂, State.calling_eq h.top, State.setFrames_setFrames, State.setTop_of_frames _ hr', hr]
      rfl
    have hsame : U.sameButNew ({ U with heap := s₂.heap, slotsUsed := s₂.slotsUsed } : State) L mc ms := by
      refine ⟨?_, q2, q3, q4, q5, q6⟩
      obtain ⟨t, ht, -⟩ := State.frames_cons hr
      show ({ U with heap := s₂.heap, slotsUsed := s₂.slotsUsed } : State) = { U.setFrames U.frames with heap := s₂.heap, slotsUsed := s₂.slotsUsed }
      rw [State.setFrames_self ht]
    subst hg
    refine Or.inl ⟨v, ⟨(({ U with heap := s₂.heap, slotsUsed := s₂.slotsUsed } : State).setVm s₂.vm), Ls ++ L, c0 + mc, s0 + ms⟩,
      ⟨X.admits, X.cas, X.clock, X.frames, X.room, X.hears, X.method, X.code, (X.here.setHeapUsed s₂.heap s₂.slotsUsed).setVm hW'.alike, X.tail, State.WarmedH.trans X.warmed hW', X.limits, X.bytes, X.same.trans (hsame.setVm s.vm)⟩,
      ⟨g, mk, s₂, L, rfl, rfl, hqc, rfl, hL, rfl, rfl⟩, ?_⟩
    show Steps p.tables e below _ ((({ U with heap := s₂.heap, slotsUsed := s₂.slotsUsed } : State).setVm s₂.vm).setTop { g with pc := g.pc + len₂, stack := v.toList ++ g.stack })
    rw [← hs₂]
    exact hsteps
  · obtain ⟨e2, q2, q3, q4, q5, q6⟩ := id hsm
    have e3 : s₂ = ({ (U.calling g mk a).setFrames s₂.frames with heap := s₂.heap, slotsUsed := s₂.slotsUsed } : State).setVm s₂.vm := by
      have : s₂ = ({ s₂ with vm := (U.calling g mk a).vm } : State).setVm s₂.vm := rfl
      rw [e2] at this
      exact this
    have hf₂ : s₂.frames = .throwing q :: .java g :: U.frames.tail := hend
    have hW' : U.WarmedH s₂.vm := hW₂
    have hs₂ : s₂ = ((({ U with heap := s₂.heap, slotsUsed := s₂.slotsUsed } : State).setVm s₂.vm).setTop g).pushFrame (.throwing q) := by
      refine e3.trans ?_
      rw [hf₂, State.calling_eq h.top, State.setFrames_setFrames, State.pushFrame, State.frames_setTop _ hr', State.setTop_of_frames _ hr', State.setFrames_setFrames, hr]
      rfl
    have hsame : U.sameButNew ({ U with heap := s₂.heap, slotsUsed := s₂.slotsUsed } : State) L mc ms := by
      refine ⟨?_, q2, q3, q4, q5, q6⟩
      obtain ⟨t, ht, -⟩ := State.frames_cons hr
      show ({ U with heap := s₂.heap, slotsUsed := s₂.slotsUsed } : State) = { U.setFrames U.frames with heap := s₂.heap, slotsUsed := s₂.slotsUsed }
      rw [State.setFrames_self ht]
    subst hg
    refine Or.inr ⟨q, ⟨(({ U with heap := s₂.heap, slotsUsed := s₂.slotsUsed } : State).setVm s₂.vm), Ls ++ L, c0 + mc, s0 + ms⟩,
      ⟨X.admits, X.cas, X.clock, X.frames, X.room, X.hears, X.method, X.code, (X.here.setHeapUsed s₂.heap s₂.slotsUsed).setVm hW'.alike, X.tail, State.WarmedH.trans X.warmed hW', X.limits, X.bytes, X.same.trans (hsame.setVm s.vm)⟩,
      ⟨g, mk, s₂, L, E, ce, rfl, rfl, hx, hce, hcv, hcl, rfl, hL, rfl, rfl⟩, ?_⟩
    show Steps p.tables e below _ (((({ U with heap := s₂.heap, slotsUsed := s₂.slotsUsed } : State).setVm s₂.vm).setTop g).pushFrame (.throwing q))
    rw [← hs₂]
    exact hsteps
end
variable {p : Program} {l : Launch} {e : Env} {R : Room} {s : State} {m : MethodId} {args : Array Value} {below : List Frame} {meth : Method} {c : Code} {T : State} {H : Heap} {locs : List Loc} {cells slots : Nat}
theorem vx_callVX (X : Stand p l e R s m args below meth c T locs cells slots) (hexec : p.tables.exec = Jvm.exec) {own C : String} {index : Nat} {y : MethodName} {bytes : ByteArray} {maxL : Nat} {ret : Option FieldType} {hh : List (Nat × Nat × Nat × Nat)}
    (hown : s.vm.findClass own = some m.cls) (hlink : (Cond.methodLink own index y).before args s = true) (hinst : (Cond.instanceMethod y).before args s = true) (hsel : (Cond.selects C y y).before args s = true)
    (hcode : (Cond.codeWith y bytes maxL ret hh).before args s = true) (hy : y.cls ≠ "java/lang/invoke/MethodHandle" ∧ y.cls ≠ "java/lang/invoke/VarHandle")
    {W9 : Nat} {Pre : Pt → Array Value → Prop} {Post : Pt → Array Value → Option Value → Pt → Prop} {PostX : Pt → Array Value → Addr → Pt → Prop} (hK : vx_Back l R p e below s args y 3 W9 Pre Post PostX)
    {b : Addr} {cellB : Cell} (hcell : T.heap[b]? = some cellB) (hobj : cellB.vm.isStatics = false) (hcls : s.vm.findClass C = some cellB.cls)
    {g : JFrame} (hg : g.method = m) (hsize : g.locals.size = c.maxLocals) {argsL rest : List Value} (hlen : ∀ sig, parseMethodDescriptor y.desc = some sig → argsL.length = sig.parameters.length)
    (hstack : g.stack = argsL.reverse ++ .ref b :: rest) (hW : 2 * g.monitorRoom + (rest.map fun v => v.category).sum ≤ W9) (hdg : decode c.code g.pc = .ok (.invokevirtual index, 3))
    (hpre : ∀ vm₁, s.WarmedH vm₁ → Pre ⟨T.setVm vm₁, locs, cells, slots⟩ (Value.ref b :: argsL).toArray) :
    (∃ (v : Option Value) (vm₁ : Vm) (B : Pt), s.WarmedH vm₁ ∧ Stand p l e R s m args below meth c B.U B.locs B.cells B.slots ∧ Post ⟨T.setVm vm₁, locs, cells, slots⟩ (Value.ref b :: argsL).toArray v B ∧
      ∀ target, Steps p.tables e below (B.U.setTop { g with pc := g.pc + 3, stack := v.toList ++ rest }) target → Steps p.tables e below (T.setTop g) target) ∨
    (∃ (q : Addr) (vm₁ : Vm) (B : Pt), s.WarmedH vm₁ ∧ Stand p l e R s m args below meth c B.U B.locs B.cells B.slots ∧ PostX ⟨T.setVm vm₁, locs, cells, slots⟩ (Value.ref b :: argsL).toArray q B ∧
      Steps p.tables e below (T.setTop g) ((B.U.setTop { g with stack := rest }).pushFrame (.throwing q))) := by
  obtain ⟨mk, methM, hnamed, hmethM, hstM, habM⟩ := Cond.instanceMethod_spec hinst
  obtain ⟨m8, methM', cM, hn8, hmethM', -, -, -, -, -, -, hsigM⟩ := Cond.codeWith_spec hcode
  cases Option.some.inj (hn8.symm.trans hnamed)
  cases hmethM.symm.trans hmethM'
  obtain ⟨c2, r2, m2, q1, q2, q3, q4, kP, hkP, hkPi⟩ := Cond.selects_spec hsel
  cases hcls.symm.trans q1
  cases (State.methodFound?_of_named hnamed hy).symm.trans q2
  cases hnamed.symm.trans q3
  have hselP : selectMethod e.platform s.vm cellB.cls mk = .method mk := by rw [Launch.admits_selectMethod X.admits]; exact q4
  obtain ⟨vm₁, X₁, hstep₁⟩ := X.invokevirtual hexec hown hlink hnamed hmethM hstM hkP hkPi hy (a := b) (cell := cellB) hcell
    (fun z h => by rw [h] at hobj; cases hobj) hselP hmethM habM hkP hkPi (g := g) hg (argsL := argsL) (rest := rest) (hlen _ hsigM) hstack hdg
  rcases hK m meth c ⟨T.setVm vm₁, locs, cells, slots⟩ { g with stack := rest } (.invokevirtual index) mk (Value.ref b :: argsL).toArray X₁ hg hsize hdg hW (X₁.named hnamed) (hpre vm₁ X₁.warmed) with ⟨v, B, X', hpost, hsteps⟩ | ⟨q, B, X', hpost, hsteps⟩
  · exact Or.inl ⟨v, vm₁, B, X₁.warmed, X', hpost, fun target h => hstep₁ _ fun acts => by rw [doInvoke_state]; exact hsteps.trans h⟩
  · exact Or.inr ⟨q, vm₁, B, X₁.warmed, X', hpost, hstep₁ _ fun acts => by rw [doInvoke_state]; exact hsteps⟩
theorem vx_callSX (X : Stand p l e R s m args below meth c T locs cells slots) (hexec : p.tables.exec = Jvm.exec) {own : String} {index : Nat} {y : MethodName} {bytes : ByteArray} {maxL : Nat} {ret : Option FieldType} {hh : List (Nat × Nat × Nat × Nat)}
    (hown : s.vm.findClass own = some m.cls) (hlink : (Cond.methodLink own index y).before args s = true) (hstat : (Cond.static y).before args s = true) (hinit : (Cond.initialized y.cls).before args s = true)
    (hcode : (Cond.codeWith y bytes maxL ret hh).before args s = true) (hy : y.cls ≠ "java/lang/invoke/MethodHandle" ∧ y.cls ≠ "java/lang/invoke/VarHandle")
    {W9 : Nat} {Pre : Pt → Array Value → Prop} {Post : Pt → Array Value → Option Value → Pt → Prop} {PostX : Pt → Array Value → Addr → Pt → Prop} (hK : vx_Back l R p e below s args y 3 W9 Pre Post PostX)
    {g : JFrame} (hg : g.method = m) (hsize : g.locals.size = c.maxLocals) {argsL rest : List Value} (hlen : ∀ sig, parseMethodDescriptor y.desc = some sig → argsL.length = sig.parameters.length)
    (hstack : g.stack = argsL.reverse ++ rest) (hW : 2 * g.monitorRoom + (rest.map fun v => v.category).sum ≤ W9) (hdg : decode c.code g.pc = .ok (.invokestatic index, 3))
    (hpre : ∀ vm₁, s.WarmedH vm₁ → Pre ⟨T.setVm vm₁, locs, cells, slots⟩ argsL.toArray) :
    (∃ (v : Option Value) (vm₁ : Vm) (B : Pt), s.WarmedH vm₁ ∧ Stand p l e R s m args below meth c B.U B.locs B.cells B.slots ∧ Post ⟨T.setVm vm₁, locs, cells, slots⟩ argsL.toArray v B ∧
      ∀ target, Steps p.tables e below (B.U.setTop { g with pc := g.pc + 3, stack := v.toList ++ rest }) target → Steps p.tables e below (T.setTop g) target) ∨
    (∃ (q : Addr) (vm₁ : Vm) (B : Pt), s.WarmedH vm₁ ∧ Stand p l e R s m args below meth c B.U B.locs B.cells B.slots ∧ PostX ⟨T.setVm vm₁, locs, cells, slots⟩ argsL.toArray q B ∧
      Steps p.tables e below (T.setTop g) ((B.U.setTop { g with stack := rest }).pushFrame (.throwing q))) := by
  obtain ⟨mk, methM, cM, hnamed, hmethM, -, -, -, -, -, -, hsigM⟩ := Cond.codeWith_spec hcode
  have hstatic : methM.isStatic = true := Cond.static_spec hnamed hmethM hstat
  obtain ⟨kP, hkP, -⟩ := className_of_methodNamed hnamed
  have hinitP : kP.init = .initialized := Cond.initialized_spec (findClass_of_methodNamed hnamed) hkP hinit
  obtain ⟨vm₁, X₁, hstep₁⟩ := X.invokestatic hexec hown hlink hnamed hmethM hstatic hkP hinitP hy (g := g) hg (argsL := argsL) (rest := rest) (hlen _ hsigM) hstack hdg
  rcases hK m meth c ⟨T.setVm vm₁, locs, cells, slots⟩ { g with stack := rest } (.invokestatic index) mk argsL.toArray X₁ hg hsize hdg hW (X₁.named hnamed) (hpre vm₁ X₁.warmed) with ⟨v, B, X', hpost, hsteps⟩ | ⟨q, B, X', hpost, hsteps⟩
  · exact Or.inl ⟨v, vm₁, B, X₁.warmed, X', hpost, fun target h => hstep₁ _ fun acts => by rw [doInvoke_state]; exact hsteps.trans h⟩
  · exact Or.inr ⟨q, vm₁, B, X₁.warmed, X', hpost, hstep₁ _ fun acts => by rw [doInvoke_state]; exact hsteps⟩
theorem vx_callVW (X : Stand p l e R s m args below meth c T locs cells slots) (hexec : p.tables.exec = Jvm.exec) {own C : String} {index : Nat} {y : MethodName} {bytes : ByteArray} {maxL : Nat} {ret : Option FieldType} {hh : List (Nat × Nat × Nat × Nat)}
    (hown : s.vm.findClass own = some m.cls) (hlink : (Cond.methodLink own index y).before args s = true) (hinst : (Cond.instanceMethod y).before args s = true) (hsel : (Cond.selects C y y).before args s = true)
    (hcode : (Cond.codeWith y bytes maxL ret hh).before args s = true) (hy : y.cls ≠ "java/lang/invoke/MethodHandle" ∧ y.cls ≠ "java/lang/invoke/VarHandle")
    {W9 : Nat} {Pre : Pt → Array Value → Prop} {Post : Pt → Array Value → Option Value → Pt → Prop} (hK : Back l R p e below s args y 3 W9 Pre Post)
    {b : Addr} {cellB : Cell} (hcell : T.heap[b]? = some cellB) (hobj : cellB.vm.isStatics = false) (hcls : s.vm.findClass C = some cellB.cls)
    {g : JFrame} (hg : g.method = m) (hsize : g.locals.size = c.maxLocals) {argsL rest : List Value} (hlen : ∀ sig, parseMethodDescriptor y.desc = some sig → argsL.length = sig.parameters.length)
    (hstack : g.stack = argsL.reverse ++ .ref b :: rest) (hW : 2 * g.monitorRoom + (rest.map fun v => v.category).sum ≤ W9) (hdg : decode c.code g.pc = .ok (.invokevirtual index, 3))
    (hpre : ∀ vm₁, s.WarmedH vm₁ → Pre ⟨T.setVm vm₁, locs, cells, slots⟩ (Value.ref b :: argsL).toArray) :
    ∃ (v : Option Value) (vm₁ : Vm) (B : Pt), s.WarmedH vm₁ ∧ Stand p l e R s m args below meth c B.U B.locs B.cells B.slots ∧ Post ⟨T.setVm vm₁, locs, cells, slots⟩ (Value.ref b :: argsL).toArray v B ∧
      ∀ target, Steps p.tables e below (B.U.setTop { g with pc := g.pc + 3, stack := v.toList ++ rest }) target → Steps p.tables e below (T.setTop g) target := by
  obtain ⟨mk, methM, hnamed, hmethM, hstM, habM⟩ := Cond.instanceMethod_spec hinst
  obtain ⟨m8, methM', cM, hn8, hmethM', -, -, -, -, -, -, hsigM⟩ := Cond.codeWith_spec hcode
  cases Option.some.inj (hn8.symm.trans hnamed)
  cases hmethM.symm.trans hmethM'
  obtain ⟨c2, r2, m2, q1, q2, q3, q4, kP, hkP, hkPi⟩ := Cond.selects_spec hsel
  cases hcls.symm.trans q1
  cases (State.methodFound?_of_named hnamed hy).symm.trans q2
  cases hnamed.symm.trans q3
  have hselP : selectMethod e.platform s.vm cellB.cls mk = .method mk := by rw [Launch.admits_selectMethod X.admits]; exact q4
  obtain ⟨vm₁, X₁, hstep₁⟩ := X.invokevirtual hexec hown hlink hnamed hmethM hstM hkP hkPi hy (a := b) (cell := cellB) hcell
    (fun z h => by rw [h] at hobj; cases hobj) hselP hmethM habM hkP hkPi (g := g) hg (argsL := argsL) (rest := rest) (hlen _ hsigM) hstack hdg
  obtain ⟨v, B, X', hpost, hsteps⟩ := hK m meth c ⟨T.setVm vm₁, locs, cells, slots⟩ { g with stack := rest } (.invokevirtual index) mk (Value.ref b :: argsL).toArray X₁ hg hsize hdg hW (X₁.named hnamed) (hpre vm₁ X₁.warmed)
  exact ⟨v, vm₁, B, X₁.warmed, X', hpost, fun target h => hstep₁ _ fun acts => by rw [doInvoke_state]; exact hsteps.trans h⟩
abbrev vx_CVW (R : Room) (s : State) (args : Array Value) (own C : String) (index : Nat) (y : MethodName) (bytes : ByteArray) (maxL : Nat) (ret : Option FieldType) (hh : List (Nat × Nat × Nat × Nat)) (ws : List Cond) (rm : Room) (mc ms n : Nat) : Prop :=
  (rm.cells = mc ∧ rm.slots = ms ∧ rm.frames + 1 ≤ R.frames ∧ 8 + (maxL + 11) + rm.locals ≤ R.locals ∧ (∀ w ∈ ws, ∀ (a' : Array Value) (U : State), s.WarmedH U.vm → w.before a' U = true) ∧ Cond.codeWith y bytes maxL ret hh ∈ ws) ∧
  (Cond.codeWith y bytes maxL ret hh).before args s = true ∧ (Cond.initialized y.cls).before args s = true ∧ (y.cls ≠ "java/lang/invoke/MethodHandle" ∧ y.cls ≠ "java/lang/invoke/VarHandle") ∧
  (∀ sig, parseMethodDescriptor y.desc = some sig → n = sig.parameters.length) ∧ (Cond.methodLink own index y).before args s = true ∧ (Cond.instanceMethod y).before args s = true ∧ (Cond.selects C y y).before args s = true
theorem vx_cwVW {own C : String} {index maxL mc ms : Nat} {y : MethodName} {bytes : ByteArray} {ret : Option FieldType} {hh : List (Nat × Nat × Nat × Nat)} {Ts ws ws' : List Cond} {rm : Room} (n : Nat) (ht : ∀ w ∈ Ts, w.before args s = true) (hT : GoodIn Ts (wsV own index C y ws)) (hw : ws = Cond.codeWith y bytes maxL ret hh :: ws') (hrc : rm.cells = mc) (hrs : rm.slots = ms)
    (hd : y.cls = C ∧ y.cls ≠ "java/lang/invoke/MethodHandle" ∧ y.cls ≠ "java/lang/invoke/VarHandle" ∧ (parseMethodDescriptor y.desc).map (fun d => d.parameters.length) = some n) (hR : rm.frames + 1 ≤ R.frames ∧ 8 + (maxL + 11) + rm.locals ≤ R.locals) :
    vx_CVW R s args own C index y bytes maxL ret hh ws rm mc ms n := by
  obtain ⟨hC, hd⟩ := hd
  subst hC
  have ok : ∀ w ∈ wsV own index y.cls y ws, w.before args s = true := fun w h => ht w (hT w h).1
  have hG : GoodIn Ts ws := fun w h => hT w (by unfold wsV; exact List.mem_append_right _ h)
  have hc : Cond.codeWith y bytes maxL ret hh ∈ ws := by rw [hw]; exact List.mem_cons_self
  refine ⟨⟨hrc, hrs, hR.1, hR.2, pay_in ht hG, hc⟩, ht _ (hG _ hc).1, ok _ (by simp [wsV]), ⟨hd.1, hd.2.1⟩, fun sig h => ?_, ok _ (by simp [wsV]), ok _ (by simp [wsV]), ok _ (by simp [wsV])⟩
  have h2 := hd.2.2
  rw [h] at h2
  exact (Option.some.inj h2).symm
theorem vx_runVW {y : MethodName} {bytes cc : ByteArray} {maxL nL mc ms n index : Nat} {ret : Option FieldType} {hh : List (Nat × Nat × Nat × Nat)} {ws : List Cond} {rm : Room} {Pc : Array Value → State → Prop} {Qc : Array Value → State → Outcome → State → Prop} {free : Addr → Prop} {Ts : List Cond} {own C : String} {b : Addr} {As rest : List Value} {g : JFrame}
    (S : CallFix p m c cc nL s args Ts own) (hM : Met l y ws rm Pc Qc mc ms free) (cw : vx_CVW R s args own C index y bytes maxL ret hh ws rm mc ms n) (hp : PreV s H C b Pc As)
    (hg : g.method = m) (hn : As.length = n) (hsize : g.locals.size = nL) (hstack : g.stack = As.reverse ++ .ref b :: rest) (hW : 2 * g.monitorRoom + (rest.map fun v => v.category).sum ≤ 8) (hdg : decode cc g.pc = .ok (.invokevirtual index, 3)) (hf : cells + mc ≤ R.cells ∧ slots + ms ≤ R.slots) :
    va_Run p l e R s m args below meth c H locs cells slots mc ms g rest (Qc (Value.ref b :: As).toArray) free := by
  obtain ⟨⟨hrc, hrs, hfr, hlo, hws, hcw⟩, hcode, hini, hy, hlen, hl, hin, hse⟩ := cw
  have hK : Back l R p e below s args y 3 8 (PreOf R mc ms Pc) (PostOf Qc mc ms free) := va_backW (hh := hh) (bytes := bytes) (maxL := maxL) (ret := ret) hM hp.1 hrc hrs hfr hlo hws hcw (fun a' U hW => word_at hW (Or.inl (by first | rfl | simp [Cond.onTables, Cond.keeps, Cond.steady])) hini)
  obtain ⟨hx, hb, hml, ho, -⟩ := S
  obtain ⟨-, ⟨cellB, hcB, hoB, hclB⟩, hPc⟩ := hp
  intro T hT X
  obtain ⟨v, vm₁, ⟨U', l2, c2, s2⟩, hW₁, X', ⟨g', mk, t, L, e1, e2, hq, h1, hL, h2, h3⟩, st⟩ := vx_callVW X hx (C := C) (hh := hh) (bytes := bytes) (maxL := maxL) (ret := ret) ho hl hin hse hcode hy hK (by rw [hT]; exact hcB) hoB hclB hg (hsize.trans hml.symm) (argsL := As) (rest := rest) (fun sig h => hn.trans (hlen sig h)) hstack hW (by rw [hb]; exact hdg)
    (fun vm₁ hW₁ => ⟨hf.1, hf.2, hPc (T.setVm vm₁) hT hW₁⟩)
  dsimp only [Pt.U, Pt.locs, Pt.cells, Pt.slots] at X' e1 e2 h1 h2 h3 st
  subst h1; subst h2; subst h3
  exact ⟨v, (T.setVm vm₁).calling g' mk (Value.ref b :: As).toArray, t, U', L, hT, X', hL, e1, e2, hq, st⟩
section
variable {y : MethodName} {bytes cc : ByteArray} {maxL nL mc ms n index : Nat} {ret : Option FieldType} {ws : List Cond} {rm : Room} {Pc : Array Value → State → Prop} {Qc : Array Value → State → Outcome → State → Prop} {XC : String → State → State → Prop} {free : Addr → Prop} {Ts : List Cond} {own C : String} {b : Addr} {As rest : List Value} {g : JFrame}
theorem vx_runVX {hh : List (Nat × Nat × Nat × Nat)} (S : CallFix p m c cc nL s args Ts own) (hM : vx_Met l y ws rm Pc Qc XC mc ms free) (cw : vx_CVW R s args own C index y bytes maxL ret hh ws rm mc ms n) (hp : PreV s H C b Pc As)
    (hg : g.method = m) (hn : As.length = n) (hsize : g.locals.size = nL) (hstack : g.stack = As.reverse ++ .ref b :: rest) (hW : 2 * g.monitorRoom + (rest.map fun v => v.category).sum ≤ 8) (hdg : decode cc g.pc = .ok (.invokevirtual index, 3)) (hf : cells + mc ≤ R.cells ∧ slots + ms ≤ R.slots) :
    vx_Run p l e R s m args below meth c H locs cells slots mc ms g rest (Qc (Value.ref b :: As).toArray) XC free := by
  obtain ⟨⟨hrc, hrs, hfr, hlo, hws, hcw⟩, hcode, hini, hy, hlen, hl, hin, hse⟩ := cw
  have hK : vx_Back l R p e below s args y 3 8 (PreOf R mc ms Pc) (PostOf Qc mc ms free) (vx_Post XC mc ms free) := vx_backW (hh := hh) (bytes := bytes) (maxL := maxL) (ret := ret) hM hp.1 hrc hrs hfr hlo hws hcw (fun a' U hW => word_at hW (Or.inl (by first | rfl | simp [Cond.onTables, Cond.keeps, Cond.steady])) hini)
  obtain ⟨hx, hb, hml, ho, -⟩ := S
  obtain ⟨-, ⟨cellB, hcB, hoB, hclB⟩, hPc⟩ := hp
  intro T hT X
  rcases vx_callVX X hx (C := C) (hh := hh) (bytes := bytes) (maxL := maxL) (ret := ret) ho hl hin hse hcode hy hK (by rw [hT]; exact hcB) hoB hclB hg (hsize.trans hml.symm) (argsL := As) (rest := rest) (fun sig h => hn.trans (hlen sig h)) hstack hW (by rw [hb]; exact hdg)
    (fun vm₁ hW₁ => ⟨hf.1, hf.2, hPc (T.setVm vm₁) hT hW₁⟩) with ⟨v, vm₁, ⟨U', l2, c2, s2⟩, hW₁, X', ⟨g', mk, t, L, e1, e2, hq, h1, hL, h2, h3⟩, st⟩ | ⟨q, vm₁, ⟨U', l2, c2, s2⟩, hW₁, X', ⟨g', mk, t, L, E, ce, e1, e2, hq, hce, hcv, hcl, h1, hL, h2, h3⟩, st⟩
  · dsimp only [Pt.U, Pt.locs, Pt.cells, Pt.slots] at X' e1 e2 h1 h2 h3 st
    subst h1; subst h2; subst h3
    exact Or.inl ⟨v, (T.setVm vm₁).calling g' mk (Value.ref b :: As).toArray, t, U', L, hT, X', hL, e1, e2, hq, st⟩
  · dsimp only [Pt.U, Pt.locs, Pt.cells, Pt.slots] at X' e1 e2 h1 h2 h3 st hcl
    subst h1; subst h2; subst h3
    exact Or.inr ⟨q, (T.setVm vm₁).calling g' mk (Value.ref b :: As).toArray, t, U', L, E, ce, hT, X', hL, e1, e2, hq, hce, hcv, vx_cls hW₁ hcl, st⟩
theorem vx_runSX {hh : List (Nat × Nat × Nat × Nat)} (S : CallFix p m c cc nL s args Ts own) (hM : vx_Met l y ws rm Pc Qc XC mc ms free) (cw : vx_CSW R s args own index y bytes maxL ret hh ws rm mc ms n) (hp : PreS s H Pc As)
    (hg : g.method = m) (hn : As.length = n) (hsize : g.locals.size = nL) (hstack : g.stack = As.reverse ++ rest) (hW : 2 * g.monitorRoom + (rest.map fun v => v.category).sum ≤ 8) (hdg : decode cc g.pc = .ok (.invokestatic index, 3)) (hf : cells + mc ≤ R.cells ∧ slots + ms ≤ R.slots) :
    vx_Run p l e R s m args below meth c H locs cells slots mc ms g rest (Qc As.toArray) XC free := by
  obtain ⟨⟨hrc, hrs, hfr, hlo, hws, hcw⟩, hcode, hini, hy, hlen, hl, hstt⟩ := cw
  have hK : vx_Back l R p e below s args y 3 8 (PreOf R mc ms Pc) (PostOf Qc mc ms free) (vx_Post XC mc ms free) := vx_backW (hh := hh) (bytes := bytes) (maxL := maxL) (ret := ret) hM hp.1 hrc hrs hfr hlo hws hcw (fun a' U hW => word_at hW (Or.inl (by first | rfl | simp [Cond.onTables, Cond.keeps, Cond.steady])) hini)
  obtain ⟨hx, hb, hml, ho, -⟩ := S
  intro T hT X
  rcases vx_callSX X hx (hh := hh) (bytes := bytes) (maxL := maxL) (ret := ret) ho hl hstt hini hcode hy hK hg (hsize.trans hml.symm) (argsL := As) (rest := rest) (fun sig h => hn.trans (hlen sig h)) hstack hW (by rw [hb]; exact hdg)
    (fun vm₁ hW₁ => ⟨hf.1, hf.2, hp.2 (T.setVm vm₁) hT hW₁⟩) with ⟨v, vm₁, ⟨U', l2, c2, s2⟩, hW₁, X', ⟨g', mk, t, L, e1, e2, hq, h1, hL, h2, h3⟩, st⟩ | ⟨q, vm₁, ⟨U', l2, c2, s2⟩, hW₁, X', ⟨g', mk, t, L, E, ce, e1, e2, hq, hce, hcv, hcl, h1, hL, h2, h3⟩, st⟩
  · dsimp only [Pt.U, Pt.locs, Pt.cells, Pt.slots] at X' e1 e2 h1 h2 h3 st
    subst h1; subst h2; subst h3
    exact Or.inl ⟨v, (T.setVm vm₁).calling g' mk As.toArray, t, U', L, hT, X', hL, e1, e2, hq, st⟩
  · dsimp only [Pt.U, Pt.locs, Pt.cells, Pt.slots] at X' e1 e2 h1 h2 h3 st hcl
    subst h1; subst h2; subst h3
    exact Or.inr ⟨q, (T.setVm vm₁).calling g' mk As.toArray, t, U', L, E, ce, hT, X', hL, e1, e2, hq, hce, hcv, vx_cls hW₁ hcl, st⟩
end
end VXH
theorem vx_ofWH {l : Launch} {y : MethodName} {ws ws' : List Cond} {rm : Room} {Pc : Array Value → State → Prop} {Qc : Array Value → State → Outcome → State → Prop} {XC : String → State → State → Prop} {mc ms : Nat} {free : Addr → Prop} {cc : ByteArray} {maxL : Nat} {ret : Option FieldType} {hh : List (Nat × Nat × Nat × Nat)}
    (hy : plainName y.cls = true) (hw : ws = Cond.codeWith y cc maxL ret hh :: ws')
    (body : ∀ p e s m args below meth c s₁, BodyLoose p l y (headSpec ws rm) cc maxL ret e s m args below meth c s₁ → c.maxLocals = maxL → Pc args s →
      W p l e (headSpec ws rm).room s m args below meth c s.heap [] 0 0 (vx_MQ below Qc XC args s mc ms free) (entryFrame m args maxL)) : vx_Met l y ws rm Pc Qc XC mc ms free := by
  refine MetFree.of_bodyS (code := cc) (maxLocals := maxL) (ret := ret) hy ?_ ?_
  · intro args s m h hn
    obtain ⟨m9, meth, c, hn9, h1, h2, h3, h4, -, h5, h6, -⟩ := Cond.codeWith_spec (atoms_spec (ws := ws) h _ (by rw [hw]; exact List.mem_cons_self))
    cases hn.symm.trans hn9
    exact ⟨meth, c, h1, h2, h3, h4, h5, h6⟩
  · intro p e s m args below meth c s₁ B hml hP _
    have hh0 : s₁.heap = s.heap := by rw [B.state]; rfl
    obtain ⟨t, a1, o, b1, b2, b3⟩ := body p e s m args below meth c s₁ B hml hP s₁ hh0 (Stand.of_body B)
    exact ⟨t, o, a1, b1, b2, b3⟩
/-! ===== END ===== -/
/-! ===== BEGIN what the machine throws by itself, no traces kept ===== -/
section VXM
set_option maxHeartbeats 1000000 in
/-- the machine throws cls with the message text, no traces kept: from its note over the frame g to 'throwing' over the same frame (follows the proofs of Stand.vmThrowsMessage, Shelf/KitTracedVmS.lean, and Stand.throwsMessageColdBareV, StandMessageColdV.lean, without the step out of the frame) -/
theorem vx_vmAt {p : Program} {l : Launch} {e : Env} {R : Room} {s : State} {m₀ : MethodId} {args : Array Value} {below : List Frame} {meth : Method} {c : Code} {W : State} {locs : List Loc} {cells slots : Nat}
    (X : Stand p l e R s m₀ args below meth c W locs cells slots) (hexec : p.tables.exec = Jvm.exec) (htr : e.platform.stackTraces = false) {cls : String} {names : List String} {text : String}
    (hcls : Bundle.fit cls = true) (hnames : ∀ n ∈ names, Bundle.fit n = true) (hsoe : (cls == "java/lang/StackOverflowError") = false) (hoom : (cls == "java/lang/OutOfMemoryError") = false)
    (h : ∀ a ∈ Bundle.messageArmAtoms cls names, a.before args s = true)
    (hlocs : ∀ x ∈ locs, ∀ cell, s.heap[x.base]? = some cell → cell.vm.isStatics = false)
    (htext : (text == notModelled) = false) (hlimit : ¬ (stringBytes (stringToUtf16 text)).size > e.platform.arrayLengthLimit) (hheap : ¬ (stringBytes (stringToUtf16 text)).size * componentBytes .byte > e.platform.maxHeapBytes)
    {g : JFrame} (hg : g.method = m₀) (hsize : g.locals.size = c.maxLocals)
    (hRframes : names.length + 4 < R.frames) (hRlocals : 2 * g.monitorRoom + (g.stack.map fun v => v.category).sum + 10240 ≤ R.locals) (hshort : 13 * names.length + 55 ≤ 10240)
    (hRcells : cells + 3 ≤ R.cells) (hRslots : slots + ((stringBytes (stringToUtf16 text)).size + 4 + 6) ≤ R.slots) (hlocks : meth.locks = false) :
    ∃ (S : State) (q : Addr) (ce : Cell), (∀ target, Steps p.tables e below ((S.setTop g).pushFrame (.throwing q)) target → Steps p.tables e below ((W.setTop g).pushFrame (.throwNew cls (some text) none)) target) ∧
      Stand p l e R s m₀ args below meth c S locs (cells + 3) (slots + ((stringBytes (stringToUtf16 text)).size + 4 + 6)) ∧ S.heap[q]? = some ce ∧ s.vm.findClass cls = some ce.cls ∧ ce.vm = .none := by
  have howns : e.platform.frameOwnsMonitors = true := by rw [X.admits.platform]
  have hfin : e.platform.finalization = false := by rw [X.admits.platform]
  have hpl : e.platform.magicAccessors = ({} : Platform).magicAccessors := by rw [X.admits.platform]
  have a : ∀ x, x ∈ Bundle.messageArmAtoms cls names → x.holds args s none s [] = true := fun x hx => h x hx
  obtain ⟨T, Z0, L, -, Y⟩ := ThrowableC.of_atoms (args := args) howns hfin hpl (fun x hx => h x (by simp [Bundle.messageArmAtoms, hx]))
  obtain ⟨Z, M, LZ, LM, hnZ⟩ := Init0T.ofS_atoms (args := args) hpl L Y (fun x hx => h x (by simp [Bundle.messageArmAtoms, hx]))
  obtain ⟨P1, Ps, hlen, L1, hL, hP1m, hlink1, hlink⟩ := Bundle.chainS (args := args) hpl hnZ names cls hcls hnames (fun x hx => h x (by simp [Bundle.messageArmAtoms, hx]))
  obtain ⟨Zs, LZs, hn4, hfitv, hfitc⟩ := StringT.of_atoms (args := args) (fun x hx => h x (by simp [Bundle.messageArmAtoms, hx]))
  have hfound : s.vm.findClass cls = some P1.m.cls := findClass_of_methodNamed hP1m
  obtain ⟨c1, kX, hc1, hk, hord, -, -, hn6⟩ := Cond.instantiable_spec (a (.instantiable cls 6) (by simp [Bundle.messageArmAtoms]))
  cases Option.some.inj (hc1.symm.trans hfound)
  have hinit := Cond.initialized_spec hfound hk (a (.initialized cls) (by simp [Bundle.messageArmAtoms]))
  have hctor : kX.findMethod "<init>" "(Ljava/lang/String;)V" = some P1.m.idx := findMethod_of_methodNamed hP1m hk
  have hsel0 : selectMethod e.platform s.vm P1.m.cls T.fill0 = .method T.fill0 := by
    obtain ⟨c2, r2, m2, q1, q2, q3, q4, -⟩ := Cond.selects_spec (a (.selects cls Bundle.tFill0 Bundle.tFill0) (by simp [Bundle.messageArmAtoms]))
    cases Option.some.inj (q1.symm.trans hfound)
    cases Option.some.inj (q2.symm.trans (State.methodFound?_of_named Y.fill0 (by decide)))
    cases Option.some.inj (q3.symm.trans Y.fill0)
    rw [Launch.admits_selectMethod X.admits]; exact q4
  have hselF : selectMethod e.platform s.vm P1.m.cls T.fill = .method T.fill := by
    obtain ⟨c2, r2, m2, q1, q2, q3, q4, -⟩ := Cond.selects_spec (a (.selects cls Bundle.tFill Bundle.tFill) (by simp [Bundle.messageArmAtoms]))
    cases Option.some.inj (q1.symm.trans hfound)
    cases Option.some.inj (q2.symm.trans (State.methodFound?_of_named Y.fill (by decide)))
    cases Option.some.inj (q3.symm.trans Y.fill)
    rw [Launch.admits_selectMethod X.admits]; exact q4
  obtain ⟨cellS0, hcS0, hiss⟩ := Y.statics
  obtain ⟨u0, hu0⟩ := Cond.staticRefV Y.unassigned L.unassignedStatic L.statics hcS0 hiss (a (.isRef (.static Bundle.tN "UNASSIGNED_STACK" Bundle.steD)) (by simp [Bundle.messageArmAtoms]))
  obtain ⟨sen, hsen⟩ := Cond.staticRefV Y.sentinel L.sentinelStatic L.statics hcS0 hiss (a (.isRef (.static Bundle.tN "SUPPRESSED_SENTINEL" Bundle.listD)) (by simp [Bundle.messageArmAtoms]))
  obtain ⟨ci198, i198, fB, hk198, hg198, ha198, hsB, -, hnB, htB, hffB⟩ := Cond.ownField (t := .object "java/lang/Object") Y.found L.cls (by decide +kernel) (a (.fieldLink Bundle.tN 198 Bundle.tN "backtrace" "Ljava/lang/Object;") (by simp [Bundle.messageArmAtoms])) (a (.lays Bundle.tN Bundle.tN "backtrace" "Ljava/lang/Object;") (by simp [Bundle.messageArmAtoms])) e.platform hpl
  obtain ⟨cellS, hcS', heS, -, hkeep⟩ := X.same.2.2.2.2.2 T.aS cellS0 hcS0
  have hcellS : W.heap[T.aS]? = some cellS := hcS'
  have hout' : ∀ i, (⟨T.aS, i⟩ : Loc) ∉ locs := fun i hmem => by
    have := hlocs _ hmem cellS0 hcS0
    rw [hiss] at this; cases this
  have hknownS : cellS.vm ≠ .unknown := by
    rw [heS]; intro hu
    rw [show cellS0.vm = .unknown from hu] at hiss
    cases hiss
  have hvU : cellS.slots[T.fUnassigned.slot]? = some u0.v := by rw [hkeep _ (hout' _)]; exact hu0
  have hvSen : cellS.slots[T.fSentinel.slot]? = some sen.v := by rw [hkeep _ (hout' _)]; exact hsen
  obtain ⟨iM, hffM⟩ := Y.msg
  obtain ⟨tyC, dC, hdC, hdnC⟩ := Cond.laysAt hfound hk Y.cause (a (.lays cls Bundle.tN "cause" "Ljava/lang/Throwable;") (by simp [Bundle.messageArmAtoms]))
  obtain ⟨tyS, dS, hdS, hdnS⟩ := Cond.laysAt hfound hk Y.stack (a (.lays cls Bundle.tN "stackTrace" Bundle.steD) (by simp [Bundle.messageArmAtoms]))
  obtain ⟨tyP, dP, hdP, hdnP⟩ := Cond.laysAt hfound hk Y.supp (a (.lays cls Bundle.tN "suppressedExceptions" Bundle.listD) (by simp [Bundle.messageArmAtoms]))
  obtain ⟨tyM, dM, hdM, hdnM⟩ := Cond.laysAt hfound hk hffM (a (.lays cls Bundle.tN "detailMessage" "Ljava/lang/String;") (by simp [Bundle.messageArmAtoms]))
  obtain ⟨tyB, dB, hdB, hdnB⟩ := Cond.laysAt hfound hk hffB (a (.lays cls Bundle.tN "backtrace" "Ljava/lang/Object;") (by simp [Bundle.messageArmAtoms]))
  have bC := Cond.laysApart hdB hdC hdnB hdnC (by rw [hnB, Y.causeName]; decide)
  have bS := Cond.laysApart hdB hdS hdnB hdnS (by rw [hnB, Y.stackName]; decide)
  have bP := Cond.laysApart hdB hdP hdnB hdnP (by rw [hnB, Y.suppName]; decide)
  have hbk : ((preparedCellV T.toThrowableT (freshCell P1.m.cls kX) (W.heap.size + 2) u0 sen).withEntry W.cur).slots[fB.slot]? = some .null := by
    have := fresh_default (c := P1.m.cls) tyB
    rw [htB] at this
    simpa [preparedCellV, Cell.setSlot, Cell.withEntry, Array.getElem?_setIfInBounds, bC, bS, bP, bC.symm, bS.symm, bP.symm, defaultValue] using this
  have tkC := Takes.of_laid (v := .ref (W.heap.size + 2)) hk hord tyC (by rw [Y.causeType]; rfl)
  have tkS := Takes.of_laid (v := u0.v) hk hord tyS (by rw [Y.stackType]; exact fits_refV_array _ u0)
  have tkP := Takes.of_laid (v := sen.v) hk hord tyP (by rw [Y.suppType]; exact fits_refV_object _ sen)
  have tkM := Takes.of_laid (v := .ref (W.heap.size + 1)) hk hord tyM (by rw [Y.msgType]; rfl)
  have hskip : SkipFacts T e.platform s (fun u => u) u0 ((preparedCellV T.toThrowableT (freshCell P1.m.cls kX) (W.heap.size + 2) u0 sen).withEntry W.cur) := ⟨{ ci198 := ci198, i198 := i198, fBack := fB }, ⟨hk198, hg198, ha198, hsB⟩, hbk, fun _ _ => rfl⟩
  have h0 : At W g.method c below := by rw [hg]; exact X.here
  obtain ⟨hbeyond, hfreeW⟩ := X.vmMayThrow hsize (.throwNew cls (some text) none) (fun f hf => by cases hf) rfl hRlocals
  have hfr' : W.frames.length + Ps.length + 4 < (e.platform.stackLimits W.me).1 := by have := X.framesAbove hRframes; omega
  have hwd' : (stackUse (.java g :: W.frames.tail)).2 + 13 * Ps.length + 55 ≤ (e.platform.stackLimits W.me).2 := by have := X.stackAbove hsize (K := 13 * Ps.length + 55) (by omega); omega
  have hslots : W.slotsUsed + (stringBytes (stringToUtf16 text)).size + Zs.kS.instanceTypes.size + kX.instanceTypes.size ≤ e.platform.maxSlots := by
    have := X.slotsAbove hRslots
    rw [hn4, hn6]
    omega
  obtain ⟨vm', hW', st⟩ := Steps.vmThrowsMessageColdByV p (s₀ := s) (S := W) (g := g) h0 hexec T L Z LZ M LM X.warmed (t := W.cur) rfl Zs LZs P1 L1 Ps hL hlink1 hlink hsoe hoom hfound hk hinit hord hctor
    (Launch.admits_hotImplicitExceptions X.admits) hbeyond hfreeW htext hlimit hheap (X.cellsAbove hRcells) hslots (hfitv _) (hfitc _)
    (Nn := fun u => u) heapOnly_id (fun _ _ => rfl) (fun _ => rfl) (fun u x y => setCell_twice _ _ _ _) (fun _ => Nat.le_refl _) (cN := ((preparedCellV T.toThrowableT (freshCell P1.m.cls kX) (W.heap.size + 2) u0 sen).withEntry W.cur))
    hsel0 hcellS hknownS hvU tkS (fun _ hu => hu) (fun _ hu => hu) rfl rfl rfl (by simp [preparedCellV, Cell.setSlot, Cell.withEntry]) hskip (fun _ _ hA hW _ hroom _ hrest => L.nativeOff p htr hA hW hroom hrest) hselF hvSen tkC tkP tkM Y.objLocals rfl hfr' hwd'
  rw [plainBareV_eq T.toThrowableT (W.heap.size + 2) u0 sen (.ref (W.heap.size + 1)) W.cur rfl rfl] at st
  obtain ⟨-, -, w3, w4, -, -, -⟩ := withThrown_facts e.platform W Zs text P1.m.cls kX
  have X3 := ((X.pushed (bytesOf Zs.cB (stringToUtf16 text))).pushed (stringAt Zs.cS Zs.kS Zs.fv Zs.fc (stringToUtf16 text) W.heap.size)).pushed (freshCell P1.m.cls kX)
  rw [← withString_eq] at X3
  have X4 := X3.noted hW'
  have ha : (W.heap.size + 2) < ((withThrown W Zs text P1.m.cls kX).setVm vm').heap.size := by show _ < (withThrown W Zs text P1.m.cls kX).heap.size; rw [w3]; omega
  have hcell : ((withThrown W Zs text P1.m.cls kX).setVm vm').heap[(W.heap.size + 2)]? = some (freshCell P1.m.cls kX) := w4
  have X5 := ((((X4.stored hcell T.fCause.slot (.ref (W.heap.size + 2))).storedAgain ha T.fStack.slot u0.v).storedAgain ha T.fSupp.slot sen.v).storedAgain ha T.fStack.slot u0.v).storedAgain ha T.fMsg.slot (.ref (W.heap.size + 1))
  obtain ⟨g₁, hfrM⟩ := X5.frames_eq
  have hU : ((((withThrown W Zs text P1.m.cls kX).setVm vm').setCell (W.heap.size + 2) (plainBareV T.toThrowableT (freshCell P1.m.cls kX) (W.heap.size + 2) u0 sen (.ref (W.heap.size + 1)))).setTop g).pushFrame (.throwing (W.heap.size + 2)) = (((withThrown W Zs text P1.m.cls kX).setVm vm').setCell (W.heap.size + 2) (plainBareV T.toThrowableT (freshCell P1.m.cls kX) (W.heap.size + 2) u0 sen (.ref (W.heap.size + 1)))).setFrames (.throwing (W.heap.size + 2) :: .java g :: below) := by
    rw [State.pushFrame, State.frames_setTop _ hfrM, State.setTop_of_frames _ hfrM, State.setFrames_setFrames]
  have b1 : (bytesOf Zs.cB (stringToUtf16 text)).slots.size = (stringBytes (stringToUtf16 text)).size := by
    rw [(Cell.writeAll_facts _ _).2.2]; simp [bytes0]
  have b2 : (stringAt Zs.cS Zs.kS Zs.fv Zs.fc (stringToUtf16 text) W.heap.size).slots.size = 4 := by simp [string0, Cell.setSlot, hn4]
  have b3 : (freshCell P1.m.cls kX).slots.size = 6 := by simp [hn6]
  rw [b1, b2, b3] at X5
  have e9 : slots + (stringBytes (stringToUtf16 text)).size + 4 + 6 = slots + ((stringBytes (stringToUtf16 text)).size + 4 + 6) := by omega
  rw [e9] at X5
  simp only [List.append_assoc, List.cons_append, List.nil_append] at X5
  refine ⟨((withThrown W Zs text P1.m.cls kX).setVm vm').setCell (W.heap.size + 2) (plainBareV T.toThrowableT (freshCell P1.m.cls kX) (W.heap.size + 2) u0 sen (.ref (W.heap.size + 1))), W.heap.size + 2, _, fun target ht => st _ (by rw [X.tail, ← hU]; exact ht),
    X5.forget (fun y hy => ?_), heapAt_setCell_self _ ha, hfound, rfl⟩
  simp only [List.mem_cons, List.not_mem_nil, or_false] at hy
  have hge : s.heap.size ≤ W.heap.size := X.same.2.1
  rcases hy with rfl | rfl | rfl | rfl | rfl <;> exact Nat.le_trans hge (Nat.le_add_right _ 2)
set_option maxHeartbeats 1000000 in
/-- the machine throws NullPointerException, no traces kept: from its note over the frame g to 'throwing' over the same frame (follows the proof of Stand.vmThrowsNpe, Shelf42/KT2.lean; throwsNpeColdBareVAt, Shelf42/NT91.lean, called) -/
theorem vx_npeAt {p : Program} {l : Launch} {e : Env} {R : Room} {s : State} {m₀ : MethodId} {args : Array Value} {below : List Frame} {meth : Method} {c : Code} {W : State} {locs : List Loc} {cells slots : Nat}
    (X : Stand p l e R s m₀ args below meth c W locs cells slots) (hexec : p.tables.exec = Jvm.exec) (htr : e.platform.stackTraces = false) {n : Nat}
    (h : ∀ a ∈ Bundle.npeArmAtoms n, a.before args s = true)
    (hlocs : ∀ x ∈ locs, ∀ cell, s.heap[x.base]? = some cell → cell.vm.isStatics = false)
    {g : JFrame} (hg : g.method = m₀) (hsize : g.locals.size = c.maxLocals)
    (hRframes : 7 < R.frames) (hRlocals : 2 * g.monitorRoom + (g.stack.map fun v => v.category).sum + 10240 ≤ R.locals)
    (hRcells : cells + 1 ≤ R.cells) (hRslots : slots + n ≤ R.slots) (hlocks : meth.locks = false) :
    ∃ (S : State) (q : Addr) (ce : Cell), (∀ target, Steps p.tables e below ((S.setTop g).pushFrame (.throwing q)) target → Steps p.tables e below ((W.setTop g).pushFrame (.throwNew "java/lang/NullPointerException" none none)) target) ∧
      Stand p l e R s m₀ args below meth c S locs (cells + 1) (slots + n) ∧ S.heap[q]? = some ce ∧ s.vm.findClass "java/lang/NullPointerException" = some ce.cls ∧ ce.vm = .none := by
  have howns : e.platform.frameOwnsMonitors = true := by rw [X.admits.platform]
  have hfin : e.platform.finalization = false := by rw [X.admits.platform]
  have hpl : e.platform.magicAccessors = ({} : Platform).magicAccessors := by rw [X.admits.platform]
  have hpl2 : e.platform.arrayCloneIsPublic = true := by rw [X.admits.platform]
  have a' : ∀ x, x ∈ Bundle.npeArmAtoms n → x.holds args s none s [] = true := fun x hx => h x hx
  obtain ⟨T, Z, L, LZ, Y⟩ := ThrowableC.of_atoms (args := args) howns hfin hpl (fun x hx => h x (by simp [Bundle.npeArmAtoms, hx]))
  obtain ⟨N, LN, hcN, hnNF, hordN, hffS⟩ := NpeC.of_atoms (args := args) hpl hpl2 L Y (fun x hx => h x (by simp [Bundle.npeArmAtoms, hx]))
  obtain ⟨P1, L1, hP1m, hP1s⟩ := PassC.of_atoms (args := args) (s := s) hpl (X := Bundle.nN) (Y := Bundle.rN) (by decide) (by decide) LibCode.NullPointerException.Init0.at_0 LibCode.NullPointerException.Init0.at_1 LibCode.NullPointerException.Init0.at_4 (fun x hx => h x (by simp [Bundle.npeArmAtoms, hx]))
  obtain ⟨PR, LR, hPRm, hPRs⟩ := PassC.of_atoms (args := args) (s := s) hpl (X := Bundle.rN) (Y := Bundle.eN) (by decide) (by decide) LibCode.RuntimeException.Init0.at_0 LibCode.RuntimeException.Init0.at_1 LibCode.RuntimeException.Init0.at_4 (fun x hx => h x (by simp [Bundle.npeArmAtoms, hx]))
  obtain ⟨PE, LEx, hPEm, hPEs⟩ := PassC.of_atoms (args := args) (s := s) hpl (X := Bundle.eN) (Y := Bundle.tN) (by decide) (by decide) LibCode.Exception.Init0.at_0 LibCode.Exception.Init0.at_1 LibCode.Exception.Init0.at_4 (fun x hx => h x (by simp [Bundle.npeArmAtoms, hx]))
  have hfound : s.vm.findClass Bundle.nN = some P1.m.cls := findClass_of_methodNamed hP1m
  have ecls : N.cN = P1.m.cls := Option.some.inj (hcN.symm.trans hfound)
  have hk : s.vm.classes[P1.m.cls]? = some N.kN := by rw [← ecls]; exact LN.cls
  have hinit := Cond.initialized_spec hfound hk (a' (.initialized Bundle.nN) (by simp [Bundle.npeArmAtoms]))
  have hctor : N.kN.findMethod "<init>" "()V" = some P1.m.idx := findMethod_of_methodNamed hP1m hk
  obtain ⟨c1, k1, hc1, hk1, -, -, -, hn⟩ := Cond.instantiable_spec (a' (.instantiable Bundle.nN n) (by simp [Bundle.npeArmAtoms]))
  cases Option.some.inj (hc1.symm.trans hfound)
  cases Option.some.inj (hk1.symm.trans hk)
  have hfsz : (freshCell P1.m.cls N.kN).slots.size = n := by simp [hn]
  have hlink1 : P1.sup = PR.m := Option.some.inj (hP1s.symm.trans hPRm)
  have hlinkR : PR.sup = PE.m := Option.some.inj (hPRs.symm.trans hPEm)
  have hlinkE : PE.sup = Z.m T.toThrowableT := Option.some.inj (hPEs.symm.trans Y.init0)
  have hLs : ∀ P, P ∈ [PR, PE] → P.Links0 e.platform s := fun P hP => by
    simp only [List.mem_cons, List.not_mem_nil, or_false] at hP
    rcases hP with rfl | rfl
    · exact LR
    · exact LEx
  have hsel0 : selectMethod e.platform s.vm P1.m.cls T.fill0 = .method T.fill0 := by
    obtain ⟨c2, r2, m2, q1, q2, q3, q4, -⟩ := Cond.selects_spec (a' (.selects Bundle.nN Bundle.tFill0 Bundle.tFill0) (by simp [Bundle.npeArmAtoms]))
    cases Option.some.inj (q1.symm.trans hfound)
    cases Option.some.inj (q2.symm.trans (State.methodFound?_of_named Y.fill0 (by decide)))
    cases Option.some.inj (q3.symm.trans Y.fill0)
    rw [Launch.admits_selectMethod X.admits]; exact q4
  have hselF : selectMethod e.platform s.vm P1.m.cls T.fill = .method N.fill := by
    obtain ⟨c2, r2, m2, q1, q2, q3, q4, -⟩ := Cond.selects_spec (a' (.selects Bundle.nN Bundle.tFill Bundle.nFill) (by simp [Bundle.npeArmAtoms]))
    cases Option.some.inj (q1.symm.trans hfound)
    cases Option.some.inj (q2.symm.trans (State.methodFound?_of_named Y.fill (by decide)))
    cases Option.some.inj (q3.symm.trans hnNF)
    rw [Launch.admits_selectMethod X.admits]; exact q4
  obtain ⟨cellS0, hcS0, hiss⟩ := Y.statics
  obtain ⟨u0, hu0⟩ := Cond.staticRefV Y.unassigned L.unassignedStatic L.statics hcS0 hiss (a' (.isRef (.static Bundle.tN "UNASSIGNED_STACK" Bundle.steD)) (by simp [Bundle.npeArmAtoms]))
  obtain ⟨sen, hsen⟩ := Cond.staticRefV Y.sentinel L.sentinelStatic L.statics hcS0 hiss (a' (.isRef (.static Bundle.tN "SUPPRESSED_SENTINEL" Bundle.listD)) (by simp [Bundle.npeArmAtoms]))
  obtain ⟨ci198, i198, fB, hk198, hg198, ha198, hsB, -, hnB, htB, hffB⟩ := Cond.ownField (t := .object "java/lang/Object") Y.found L.cls (by decide +kernel) (a' (.fieldLink Bundle.tN 198 Bundle.tN "backtrace" Bundle.objD) (by simp [Bundle.npeArmAtoms])) (a' (.lays Bundle.tN Bundle.tN "backtrace" Bundle.objD) (by simp [Bundle.npeArmAtoms])) e.platform hpl
  obtain ⟨cellS, hcS', heS, -, hkeep⟩ := X.same.2.2.2.2.2 T.aS cellS0 hcS0
  have hcellS : W.heap[T.aS]? = some cellS := hcS'
  have hout' : ∀ i, (⟨T.aS, i⟩ : Loc) ∉ locs := fun i hmem => by
    have := hlocs _ hmem cellS0 hcS0
    rw [hiss] at this; cases this
  have hknownS : cellS.vm ≠ .unknown := by
    rw [heS]; intro hu
    rw [show cellS0.vm = .unknown from hu] at hiss
    cases hiss
  have hvU : cellS.slots[T.fUnassigned.slot]? = some u0.v := by rw [hkeep _ (hout' _)]; exact hu0
  have hvSen : cellS.slots[T.fSentinel.slot]? = some sen.v := by rw [hkeep _ (hout' _)]; exact hsen
  obtain ⟨tyC, dC, hdC, hdnC⟩ := Cond.laysAt hfound hk Y.cause (a' (.lays Bundle.nN Bundle.tN "cause" "Ljava/lang/Throwable;") (by simp [Bundle.npeArmAtoms]))
  obtain ⟨tyS, dS, hdS, hdnS⟩ := Cond.laysAt hfound hk Y.stack (a' (.lays Bundle.nN Bundle.tN "stackTrace" Bundle.steD) (by simp [Bundle.npeArmAtoms]))
  obtain ⟨tyP, dP, hdP, hdnP⟩ := Cond.laysAt hfound hk Y.supp (a' (.lays Bundle.nN Bundle.tN "suppressedExceptions" Bundle.listD) (by simp [Bundle.npeArmAtoms]))
  obtain ⟨tyX, dX, hdX, hdnX⟩ := Cond.laysAt hfound hk hffS (a' (.lays Bundle.nN Bundle.nN "extendedMessageState" "I") (by simp [Bundle.npeArmAtoms, Bundle.npeAtoms]))
  obtain ⟨hnX, htX⟩ := State.fieldFound?_type hffS (t := .int) (by decide +kernel)
  have xC := Cond.laysApart hdC hdX hdnC hdnX (by rw [hnX, Y.causeName]; decide)
  have xS := Cond.laysApart hdS hdX hdnS hdnX (by rw [hnX, Y.stackName]; decide)
  have xP := Cond.laysApart hdP hdX hdnP hdnX (by rw [hnX, Y.suppName]; decide)
  have hv0 : (freshCell P1.m.cls N.kN).slots[N.fState.slot]? = some (.int 0) := by
    have := fresh_default (c := P1.m.cls) tyX
    rw [htX] at this; exact this
  obtain ⟨tyB, dB, hdB, hdnB⟩ := Cond.laysAt hfound hk hffB (a' (.lays Bundle.nN Bundle.tN "backtrace" Bundle.objD) (by simp [Bundle.npeArmAtoms]))
  have bC := Cond.laysApart hdB hdC hdnB hdnC (by rw [hnB, Y.causeName]; decide)
  have bS := Cond.laysApart hdB hdS hdnB hdnS (by rw [hnB, Y.stackName]; decide)
  have bP := Cond.laysApart hdB hdP hdnB hdnP (by rw [hnB, Y.suppName]; decide)
  have bX := Cond.laysApart hdB hdX hdnB hdnX (by rw [hnB, hnX]; decide)
  have hbk : ((npeCell N.toNpeT (preparedCellV T.toThrowableT (freshCell P1.m.cls N.kN) W.heap.size u0 sen) W.cur).withEntry W.cur).slots[fB.slot]? = some .null := by
    have := fresh_default (c := P1.m.cls) tyB
    rw [htB] at this
    simpa [npeCell, preparedCellV, Cell.setSlot, Cell.withEntry, Array.getElem?_setIfInBounds, bC, bS, bP, bX, bC.symm, bS.symm, bP.symm, bX.symm, defaultValue] using this
  have tkC := Takes.of_laid (v := .ref W.heap.size) hk hordN tyC (by rw [Y.causeType]; rfl)
  have tkS := Takes.of_laid (v := u0.v) hk hordN tyS (by rw [Y.stackType]; exact fits_refV_array _ u0)
  have tkP := Takes.of_laid (v := sen.v) hk hordN tyP (by rw [Y.suppType]; exact fits_refV_object _ sen)
  have tkX := Takes.of_laid (v := .int 1) hk hordN tyX (by rw [htX]; rfl)
  have hskip : SkipFacts T e.platform s (fun u => u) u0 ((npeCell N.toNpeT (preparedCellV T.toThrowableT (freshCell P1.m.cls N.kN) W.heap.size u0 sen) W.cur).withEntry W.cur) := ⟨{ ci198 := ci198, i198 := i198, fBack := fB }, ⟨hk198, hg198, ha198, hsB⟩, hbk, fun _ _ => rfl⟩
  obtain ⟨vm', X3, st, -⟩ := X.throwsNpeColdBareVAt hexec hg hsize T L Z LZ N LN P1 L1 [PR, PE] hLs hlink1 ⟨hlinkR, hlinkE, trivial⟩ hfound hk hinit hordN hctor hsel0 hselF hcellS hknownS hvU hvSen
    hv0 xC xS xP tkC tkS tkP tkX Y.objLocals hskip (fun _ _ hA hW _ hroom _ hrest => L.nativeOff p htr hA hW hroom hrest) (by simpa using hRframes) hRlocals (by simp) hRcells (by rw [hn]; exact hRslots)
  have hlt : W.heap.size < ((W.pushCell (freshCell P1.m.cls N.kN)).setVm vm').heap.size := by
    show W.heap.size < (W.pushCell (freshCell P1.m.cls N.kN)).heap.size
    rw [State.heap_size_pushCell]; omega
  rw [hfsz] at X3
  obtain ⟨g₁, hfrM⟩ := X3.frames_eq
  have hU : ((((W.pushCell (freshCell P1.m.cls N.kN)).setVm vm').setCell W.heap.size (npeBareV T.toThrowableT N.toNpeT (freshCell P1.m.cls N.kN) W.heap.size u0 sen)).setTop g).pushFrame (.throwing W.heap.size) = (((W.pushCell (freshCell P1.m.cls N.kN)).setVm vm').setCell W.heap.size (npeBareV T.toThrowableT N.toNpeT (freshCell P1.m.cls N.kN) W.heap.size u0 sen)).setFrames (.throwing W.heap.size :: .java g :: below) := by
    rw [State.pushFrame, State.frames_setTop _ hfrM, State.setTop_of_frames _ hfrM, State.setFrames_setFrames]
  refine ⟨_, W.heap.size, _, fun target ht => st.trans (by rw [← hU]; exact ht), X3.forget (fun y hy => ?_), heapAt_setCell_self _ hlt, hfound, rfl⟩
  simp only [List.mem_cons, List.not_mem_nil, or_false] at hy
  have hge : s.heap.size ≤ W.heap.size := X.same.2.1
  rcases hy with rfl | rfl | rfl | rfl | rfl <;> exact hge
/-- the words of a machine's NullPointerException, but the four that speak of the heap -/
def vx_atN (n : Nat) : List Cond := (Bundle.npeArmAtoms n).filter vx_no
/-- the words of a machine's throw with a message, but the four that speak of the heap -/
def vx_atM (X : String) (names : List String) : List Cond := (Bundle.messageArmAtoms X names).filter vx_no
section
variable {p : Program} {l : Launch} {e : Env} {R : Room} {s : State} {m : MethodId} {args : Array Value} {below : List Frame} {meth : Method} {c : Code} {H : Heap} {locs : List Loc} {cells slots : Nat}
/-- a frame seen from a rebased start, seen from the first start again -/
theorem vx_back9 {T S : State} {R' : Room} {k n : Nat} (X : Stand p l e R s m args below meth c T locs cells slots) (Y : Stand p l e R' ((T.setVm s.vm).setFrames (.invoking m args :: below)) m args below meth c T [] 0 0) (Z : Stand p l e R' ((T.setVm s.vm).setFrames (.invoking m args :: below)) m args below meth c S [] k n) :
    Stand p l e R s m args below meth c S locs (cells + k) (slots + n) := by
  have hW0 : s.WarmedH ((T.setVm s.vm).setFrames (.invoking m args :: below)).vm := State.WarmedH.refl s
  refine { admits := X.admits, cas := X.cas, clock := X.clock, frames := X.frames, room := X.room, hears := X.hears, method := X.method, code := X.code, here := Z.here, tail := Z.tail, warmed := State.WarmedH.trans hW0 Z.warmed, limits := Z.limits.trans (Y.limits.symm.trans X.limits), bytes := Z.bytes.trans (Y.bytes.symm.trans X.bytes), same := ?_ }
  obtain ⟨e1, e2⟩ := Z.same
  rw [State.setFrames_setFrames] at e1
  have h2 : (T.setVm s.vm).sameButNew (S.setVm s.vm) [] k n := ⟨e1, e2⟩
  have h3 := X.same.trans h2
  rw [List.append_nil] at h3
  exact h3
/-- from the machine's note that E is thrown here with this text -/
def vx_Note (p : Program) (l : Launch) (e : Env) (R : Room) (s : State) (m : MethodId) (args : Array Value) (below : List Frame) (meth : Method) (c : Code) (H : Heap) (locs : List Loc) (cells slots : Nat) (Q : State → Prop) (g : JFrame) (E text : String) : Prop :=
  ∀ T : State, T.heap = H → Stand p l e R s m args below meth c T locs cells slots → ∃ t, Steps p.tables e below ((T.setTop g).pushFrame (.throwNew E (some text) none)) t ∧ Q t
theorem vx_vm {pc : Nat} {ls : Array Slot} {rest : List Value} {Q : State → Prop} (hexec : p.tables.exec = Jvm.exec) (hl : l.stackTraces = false) {cls text : String} {names : List String} {nb : Nat} {A : Nat → Prop}
    (hcls : Bundle.fit cls = true) (hnames : ∀ n ∈ names, Bundle.fit n = true) (hsoe : (cls == "java/lang/StackOverflowError") = false) (hoom : (cls == "java/lang/OutOfMemoryError") = false)
    (hat : ∀ w ∈ vx_atM cls names, w.before args s = true) (hgood : ∀ w ∈ vx_atM cls names, vx_ot w = true)
    (hU : vx_Zq Bundle.tN "UNASSIGNED_STACK" Bundle.steD A s s.heap) (hN : vx_Zq Bundle.tN "SUPPRESSED_SENTINEL" Bundle.listD A s s.heap) (hS : va_S A s.heap H locs) (hsize : ls.size = c.maxLocals)
    (htext : (text == notModelled) = false) (hnb : (stringBytes (stringToUtf16 text)).size ≤ nb) (hnb1 : nb ≤ 1000)
    (hRframes : names.length + 4 < R.frames) (hRlocals : (rest.map fun v => v.category).sum + 10240 ≤ R.locals) (hshort : 13 * names.length + 55 ≤ 10240) (hRcells : cells + 3 ≤ R.cells) (hRslots : slots + (nb + 10) ≤ R.slots) (hlocks : meth.locks = false)
    (k : ∀ (H1 : Heap) (q9 : Addr) (ce : Cell), H.size ≤ H1.size → (∀ q : Nat, q < H.size → H1[q]? = H[q]?) → va_S A s.heap H1 locs → H1[q9]? = some ce → ce.vm = .none → s.vm.findClass cls = some ce.cls → vx_W p l e R s m args below meth c H1 locs (cells + 3) (slots + (nb + 10)) Q (F0 m pc ls rest) q9) :
    vx_Note p l e R s m args below meth c H locs cells slots Q (F0 m pc ls rest) cls text := by
  intro T hT X
  have htr : e.platform.stackTraces = false := (show e.platform.stackTraces = l.stackTraces by rw [X.admits.platform]).trans hl
  have Y := vx_rebase X (R' := { frames := R.frames, locals := R.locals, cells := 3, slots := nb + 10 }) (Nat.le_refl _) (Nat.le_refl _) hRcells hRslots
  have hhp : ((T.setVm s.vm).setFrames (.invoking m args :: below)).heap = H := hT
  have hW0 : s.WarmedH ((T.setVm s.vm).setFrames (.invoking m args :: below)).vm := State.WarmedH.refl s
  have hat' : ∀ w ∈ vx_atM cls names, w.before args ((T.setVm s.vm).setFrames (.invoking m args :: below)) = true := fun w hw => vx_ot_at hW0 rfl (hgood w hw) (hat w hw)
  have hU' : vx_Zq Bundle.tN "UNASSIGNED_STACK" Bundle.steD A ((T.setVm s.vm).setFrames (.invoking m args :: below)) ((T.setVm s.vm).setFrames (.invoking m args :: below)).heap := by rw [hhp]; exact vx_Zq.moved hW0.alike (hU.kept hS.2.1)
  have hN' : vx_Zq Bundle.tN "SUPPRESSED_SENTINEL" Bundle.listD A ((T.setVm s.vm).setFrames (.invoking m args :: below)) ((T.setVm s.vm).setFrames (.invoking m args :: below)).heap := by rw [hhp]; exact vx_Zq.moved hW0.alike (hN.kept hS.2.1)
  obtain ⟨S, q, ce, st, Z, hce, hcl', hv⟩ := vx_vmAt Y hexec htr (cls := cls) (names := names) (text := text) hcls hnames hsoe hoom (vx_own hat' (vx_isRefq hU'.1) (vx_isRefq hN'.1) hU'.2.word hN'.2.word) (fun x hx => nomatch hx) htext
    (by rw [Launch.admits_arrayLengthLimit X.admits]; omega) (by rw [Launch.admits_maxHeapBytes X.admits]; simp only [componentBytes]; omega)
    (g := F0 m pc ls rest) rfl hsize hRframes (by show 2 * 0 + (rest.map fun v => v.category).sum + 10240 ≤ R.locals; omega) hshort (by show 0 + 3 ≤ 3; omega) (by show 0 + (_ + 4 + 6) ≤ nb + 10; omega) hlocks
  obtain ⟨f1, f2⟩ := vx_frame Z.same
  have f1' : H.size ≤ S.heap.size := by rw [← hT]; exact f1
  have f2' : ∀ q : Nat, q < H.size → S.heap[q]? = H[q]? := fun q hq => by
    rw [← hT]
    exact f2 q (by rw [← hT] at hq; exact hq) (fun z hz => nomatch hz)
  have X5 := vx_back9 X Y Z
  have X6 : Stand p l e R s m args below meth c S locs (cells + 3) (slots + (nb + 10)) := { X5 with same := X5.same.mono (by omega) (by omega) }
  obtain ⟨t, a1, b1⟩ := k S.heap q ce f1' f2' ⟨Nat.le_trans hS.1 f1', fun q h1 h2 => (f2' q (Nat.lt_of_lt_of_le h1 hS.1)).trans (hS.2.1 q h1 h2), hS.2.2⟩ hce hv hcl' S rfl X6
  exact ⟨t, st t a1, b1⟩
/-- from the machine's note that NullPointerException is thrown here -/
def vx_NoteN (p : Program) (l : Launch) (e : Env) (R : Room) (s : State) (m : MethodId) (args : Array Value) (below : List Frame) (meth : Method) (c : Code) (H : Heap) (locs : List Loc) (cells slots : Nat) (Q : State → Prop) (g : JFrame) : Prop :=
  ∀ T : State, T.heap = H → Stand p l e R s m args below meth c T locs cells slots → ∃ t, Steps p.tables e below ((T.setTop g).pushFrame (.throwNew "java/lang/NullPointerException" none none)) t ∧ Q t
theorem vx_npe {pc : Nat} {ls : Array Slot} {rest : List Value} {Q : State → Prop} (hexec : p.tables.exec = Jvm.exec) (hl : l.stackTraces = false) {nb : Nat} {A : Nat → Prop}
    (hat : ∀ w ∈ vx_atN nb, w.before args s = true) (hgood : ∀ w ∈ vx_atN nb, vx_ot w = true)
    (hU : vx_Zq Bundle.tN "UNASSIGNED_STACK" Bundle.steD A s s.heap) (hN : vx_Zq Bundle.tN "SUPPRESSED_SENTINEL" Bundle.listD A s s.heap) (hS : va_S A s.heap H locs) (hsize : ls.size = c.maxLocals)
    (hRframes : 7 < R.frames) (hRlocals : (rest.map fun v => v.category).sum + 10240 ≤ R.locals) (hRcells : cells + 1 ≤ R.cells) (hRslots : slots + nb ≤ R.slots) (hlocks : meth.locks = false)
    (k : ∀ (H1 : Heap) (q9 : Addr) (ce : Cell), H.size ≤ H1.size → (∀ q : Nat, q < H.size → H1[q]? = H[q]?) → va_S A s.heap H1 locs → H1[q9]? = some ce → ce.vm = .none → s.vm.findClass "java/lang/NullPointerException" = some ce.cls → vx_W p l e R s m args below meth c H1 locs (cells + 1) (slots + nb) Q (F0 m pc ls rest) q9) :
    vx_NoteN p l e R s m args below meth c H locs cells slots Q (F0 m pc ls rest) := by
  intro T hT X
  have htr : e.platform.stackTraces = false := (show e.platform.stackTraces = l.stackTraces by rw [X.admits.platform]).trans hl
  have Y := vx_rebase X (R' := { frames := R.frames, locals := R.locals, cells := 1, slots := nb }) (Nat.le_refl _) (Nat.le_refl _) hRcells hRslots
  have hhp : ((T.setVm s.vm).setFrames (.invoking m args :: below)).heap = H := hT
  have hW0 : s.WarmedH ((T.setVm s.vm).setFrames (.invoking m args :: below)).vm := State.WarmedH.refl s
  have hat' : ∀ w ∈ vx_atN nb, w.before args ((T.setVm s.vm).setFrames (.invoking m args :: below)) = true := fun w hw => vx_ot_at hW0 rfl (hgood w hw) (hat w hw)
  have hU' : vx_Zq Bundle.tN "UNASSIGNED_STACK" Bundle.steD A ((T.setVm s.vm).setFrames (.invoking m args :: below)) ((T.setVm s.vm).setFrames (.invoking m args :: below)).heap := by rw [hhp]; exact vx_Zq.moved hW0.alike (hU.kept hS.2.1)
  have hN' : vx_Zq Bundle.tN "SUPPRESSED_SENTINEL" Bundle.listD A ((T.setVm s.vm).setFrames (.invoking m args :: below)) ((T.setVm s.vm).setFrames (.invoking m args :: below)).heap := by rw [hhp]; exact vx_Zq.moved hW0.alike (hN.kept hS.2.1)
  obtain ⟨S, q, ce, st, Z, hce, hcl', hv⟩ := vx_npeAt Y hexec htr (n := nb) (vx_own hat' (vx_isRefq hU'.1) (vx_isRefq hN'.1) hU'.2.word hN'.2.word) (fun x hx => nomatch hx)
    (g := F0 m pc ls rest) rfl hsize hRframes (by show 2 * 0 + (rest.map fun v => v.category).sum + 10240 ≤ R.locals; omega) (by show 0 + 1 ≤ 1; omega) (by show 0 + nb ≤ nb; omega) hlocks
  obtain ⟨f1, f2⟩ := vx_frame Z.same
  have f1' : H.size ≤ S.heap.size := by rw [← hT]; exact f1
  have f2' : ∀ q : Nat, q < H.size → S.heap[q]? = H[q]? := fun q hq => by
    rw [← hT]
    exact f2 q (by rw [← hT] at hq; exact hq) (fun z hz => nomatch hz)
  have X5 := vx_back9 X Y Z
  have X6 : Stand p l e R s m args below meth c S locs (cells + 1) (slots + nb) := { X5 with same := X5.same.mono (by omega) (by omega) }
  obtain ⟨t, a1, b1⟩ := k S.heap q ce f1' f2' ⟨Nat.le_trans hS.1 f1', fun q h1 h2 => (f2' q (Nat.lt_of_lt_of_le h1 hS.1)).trans (hS.2.1 q h1 h2), hS.2.2⟩ hce hv hcl' S rfl X6
  exact ⟨t, st t a1, b1⟩
variable {Q : State → Prop} {cc : ByteArray} {pc : Nat} {ls : Array Slot} {rest : List Value}
theorem vx_idivZ (hexec : p.tables.exec = Jvm.exec) (hb : c.code = cc) {a b : Int32} (h0 : b = 0) (d : decode cc pc = .ok (.idiv, 1)) (k : vx_Note p l e R s m args below meth c H locs cells slots Q (F0 m pc ls rest) "java/lang/ArithmeticException" "/ by zero") :
    W p l e R s m args below meth c H locs cells slots Q (F0 m pc ls (.int b :: .int a :: rest)) := by
  intro T hT X
  obtain ⟨t, st, q⟩ := k T hT X
  exact ⟨t, X.idivZero hexec (g := F0 m pc ls (.int b :: .int a :: rest)) rfl (a := a) (rest := rest) (by rw [h0]) (by rw [hb]; exact d) t st, q⟩
theorem vx_iremZ (hexec : p.tables.exec = Jvm.exec) (hb : c.code = cc) {a b : Int32} (h0 : b = 0) (d : decode cc pc = .ok (.irem, 1)) (k : vx_Note p l e R s m args below meth c H locs cells slots Q (F0 m pc ls rest) "java/lang/ArithmeticException" "/ by zero") :
    W p l e R s m args below meth c H locs cells slots Q (F0 m pc ls (.int b :: .int a :: rest)) := by
  intro T hT X
  obtain ⟨t, st, q⟩ := k T hT X
  exact ⟨t, X.iremZero hexec (g := F0 m pc ls (.int b :: .int a :: rest)) rfl (a := a) (rest := rest) (by rw [h0]) (by rw [hb]; exact d) t st, q⟩
theorem vx_ldivZ (hexec : p.tables.exec = Jvm.exec) (hb : c.code = cc) {a b : Int64} (h0 : b = 0) (d : decode cc pc = .ok (.ldiv, 1)) (k : vx_Note p l e R s m args below meth c H locs cells slots Q (F0 m pc ls rest) "java/lang/ArithmeticException" "/ by zero") :
    W p l e R s m args below meth c H locs cells slots Q (F0 m pc ls (.long b :: .long a :: rest)) := by
  intro T hT X
  obtain ⟨t, st, q⟩ := k T hT X
  exact ⟨t, X.ldivZero hexec (g := F0 m pc ls (.long b :: .long a :: rest)) rfl (a := a) (rest := rest) (by rw [h0]) (by rw [hb]; exact d) t st, q⟩
theorem vx_lremZ (hexec : p.tables.exec = Jvm.exec) (hb : c.code = cc) {a b : Int64} (h0 : b = 0) (d : decode cc pc = .ok (.lrem, 1)) (k : vx_Note p l e R s m args below meth c H locs cells slots Q (F0 m pc ls rest) "java/lang/ArithmeticException" "/ by zero") :
    W p l e R s m args below meth c H locs cells slots Q (F0 m pc ls (.long b :: .long a :: rest)) := by
  intro T hT X
  obtain ⟨t, st, q⟩ := k T hT X
  exact ⟨t, X.lremZero hexec (g := F0 m pc ls (.long b :: .long a :: rest)) rfl (a := a) (rest := rest) (by rw [h0]) (by rw [hb]; exact d) t st, q⟩
theorem vx_ialdZ {D : va_G} {cl : List vw_C} {ws : va_W} {tys : List (ClassId × FieldType)} {a : Nat} (hexec : p.tables.exec = Jvm.exec) (hb : c.code = cc) (hK : va_K D cl tys s) (hP : va_P D cl ws H) (q0 t0 : Nat) {cA : ClassId} {n : Nat} {f : Nat → Int32} (ha : ws[q0]? = some (a, .inl (cA, n, .inl f))) (ht : tys[t0]? = some (cA, .int)) {i : Int32} (hout : ¬ vp_in i n) (hdg : decode cc pc = .ok (.iaload, 1))
    (k : ∀ tx : String, tx = (toString "Index " ++ toString i ++ toString " out of bounds for length " ++ toString n : String) → vx_Note p l e R s m args below meth c H locs cells slots Q (F0 m pc ls rest) "java/lang/ArrayIndexOutOfBoundsException" tx) : W p l e R s m args below meth c H locs cells slots Q (F0 m pc ls (.int i :: .ref a :: rest)) := by
  intro T hT X
  obtain ⟨t, st, q⟩ := k _ rfl T hT X
  refine ⟨t, ?_, q⟩
  have h1 := X.ialoadOut hexec (by rw [hT]; exact hP q0 _ ha) ((hK.2 t0 _ ht).1 n (fun j => .int (f j))) (j := i) (by show (i < 0 ∨ (arrV _ _ _).slots.size ≤ _); rw [arrV_size]; exact Classical.byContradiction hout) (g := F0 m pc ls (.int i :: .ref a :: rest)) rfl (rest := rest) rfl (by rw [hb]; exact hdg) t
  simp only [arrV_size] at h1
  exact h1 st
theorem vx_iastZ {D : va_G} {cl : List vw_C} {ws : va_W} {tys : List (ClassId × FieldType)} {a : Nat} (hexec : p.tables.exec = Jvm.exec) (hb : c.code = cc) (hK : va_K D cl tys s) (hP : va_P D cl ws H) (q0 t0 : Nat) {cA : ClassId} {n : Nat} {f : Nat → Int32} (ha : ws[q0]? = some (a, .inl (cA, n, .inl f))) (ht : tys[t0]? = some (cA, .int)) {i : Int32} {x : Int32} (hout : ¬ vp_in i n) (hdg : decode cc pc = .ok (.iastore, 1))
    (k : ∀ tx : String, tx = (toString "Index " ++ toString i ++ toString " out of bounds for length " ++ toString n : String) → vx_Note p l e R s m args below meth c H locs cells slots Q (F0 m pc ls rest) "java/lang/ArrayIndexOutOfBoundsException" tx) : W p l e R s m args below meth c H locs cells slots Q (F0 m pc ls (.int x :: .int i :: .ref a :: rest)) := by
  intro T hT X
  obtain ⟨t, st, q⟩ := k _ rfl T hT X
  refine ⟨t, ?_, q⟩
  have h1 := X.iastoreOut hexec (by rw [hT]; exact hP q0 _ ha) ((hK.2 t0 _ ht).1 n (fun j => .int (f j))) (j := i) (by show (i < 0 ∨ (arrV _ _ _).slots.size ≤ _); rw [arrV_size]; exact Classical.byContradiction hout) (g := F0 m pc ls (.int x :: .int i :: .ref a :: rest)) rfl (rest := rest) rfl (by rw [hb]; exact hdg) t
  simp only [arrV_size] at h1
  exact h1 st
theorem vx_baldZ {D : va_G} {cl : List vw_C} {ws : va_W} {tys : List (ClassId × FieldType)} {a : Nat} (hexec : p.tables.exec = Jvm.exec) (hb : c.code = cc) (hK : va_K D cl tys s) (hP : va_P D cl ws H) (q0 t0 : Nat) {cA : ClassId} {n : Nat} {f : Nat → Int32} (ha : ws[q0]? = some (a, .inl (cA, n, .inl f))) (ht : tys[t0]? = some (cA, .byte)) {i : Int32} (hout : ¬ vp_in i n) (hdg : decode cc pc = .ok (.baload, 1))
    (k : ∀ tx : String, tx = (toString "Index " ++ toString i ++ toString " out of bounds for length " ++ toString n : String) → vx_Note p l e R s m args below meth c H locs cells slots Q (F0 m pc ls rest) "java/lang/ArrayIndexOutOfBoundsException" tx) : W p l e R s m args below meth c H locs cells slots Q (F0 m pc ls (.int i :: .ref a :: rest)) := by
  intro T hT X
  obtain ⟨t, st, q⟩ := k _ rfl T hT X
  refine ⟨t, ?_, q⟩
  have h1 := X.baloadOut hexec (by rw [hT]; exact hP q0 _ ha) ((hK.2 t0 _ ht).1 n (fun j => .int (f j))) (j := i) (by show (i < 0 ∨ (arrV _ _ _).slots.size ≤ _); rw [arrV_size]; exact Classical.byContradiction hout) (g := F0 m pc ls (.int i :: .ref a :: rest)) rfl (rest := rest) rfl (by rw [hb]; exact hdg) t
  simp only [arrV_size] at h1
  exact h1 st
theorem vx_bastZ {D : va_G} {cl : List vw_C} {ws : va_W} {tys : List (ClassId × FieldType)} {a : Nat} (hexec : p.tables.exec = Jvm.exec) (hb : c.code = cc) (hK : va_K D cl tys s) (hP : va_P D cl ws H) (q0 t0 : Nat) {cA : ClassId} {n : Nat} {f : Nat → Int32} (ha : ws[q0]? = some (a, .inl (cA, n, .inl f))) (ht : tys[t0]? = some (cA, .byte)) {i : Int32} {x : Int32} (hout : ¬ vp_in i n) (hdg : decode cc pc = .ok (.bastore, 1))
    (k : ∀ tx : String, tx = (toString "Index " ++ toString i ++ toString " out of bounds for length " ++ toString n : String) → vx_Note p l e R s m args below meth c H locs cells slots Q (F0 m pc ls rest) "java/lang/ArrayIndexOutOfBoundsException" tx) : W p l e R s m args below meth c H locs cells slots Q (F0 m pc ls (.int x :: .int i :: .ref a :: rest)) := by
  intro T hT X
  obtain ⟨t, st, q⟩ := k _ rfl T hT X
  refine ⟨t, ?_, q⟩
  have h1 := X.bastoreOut hexec (by rw [hT]; exact hP q0 _ ha) ((hK.2 t0 _ ht).1 n (fun j => .int (f j))) (j := i) (by show (i < 0 ∨ (arrV _ _ _).slots.size ≤ _); rw [arrV_size]; exact Classical.byContradiction hout) (g := F0 m pc ls (.int x :: .int i :: .ref a :: rest)) rfl (rest := rest) rfl (by rw [hb]; exact hdg) t
  simp only [arrV_size] at h1
  exact h1 st
theorem vx_zaldZ {D : va_G} {cl : List vw_C} {ws : va_W} {tys : List (ClassId × FieldType)} {a : Nat} (hexec : p.tables.exec = Jvm.exec) (hb : c.code = cc) (hK : va_K D cl tys s) (hP : va_P D cl ws H) (q0 t0 : Nat) {cA : ClassId} {n : Nat} {f : Nat → Int32} (ha : ws[q0]? = some (a, .inl (cA, n, .inl f))) (ht : tys[t0]? = some (cA, .boolean)) {i : Int32} (hout : ¬ vp_in i n) (hdg : decode cc pc = .ok (.baload, 1))
    (k : ∀ tx : String, tx = (toString "Index " ++ toString i ++ toString " out of bounds for length " ++ toString n : String) → vx_Note p l e R s m args below meth c H locs cells slots Q (F0 m pc ls rest) "java/lang/ArrayIndexOutOfBoundsException" tx) : W p l e R s m args below meth c H locs cells slots Q (F0 m pc ls (.int i :: .ref a :: rest)) := by
  intro T hT X
  obtain ⟨t, st, q⟩ := k _ rfl T hT X
  refine ⟨t, ?_, q⟩
  have h1 := X.baloadOut hexec (by rw [hT]; exact hP q0 _ ha) ((hK.2 t0 _ ht).1 n (fun j => .int (f j))) (j := i) (by show (i < 0 ∨ (arrV _ _ _).slots.size ≤ _); rw [arrV_size]; exact Classical.byContradiction hout) (g := F0 m pc ls (.int i :: .ref a :: rest)) rfl (rest := rest) rfl (by rw [hb]; exact hdg) t
  simp only [arrV_size] at h1
  exact h1 st
theorem vx_zastZ {D : va_G} {cl : List vw_C} {ws : va_W} {tys : List (ClassId × FieldType)} {a : Nat} (hexec : p.tables.exec = Jvm.exec) (hb : c.code = cc) (hK : va_K D cl tys s) (hP : va_P D cl ws H) (q0 t0 : Nat) {cA : ClassId} {n : Nat} {f : Nat → Int32} (ha : ws[q0]? = some (a, .inl (cA, n, .inl f))) (ht : tys[t0]? = some (cA, .boolean)) {i : Int32} {x : Int32} (hout : ¬ vp_in i n) (hdg : decode cc pc = .ok (.bastore, 1))
    (k : ∀ tx : String, tx = (toString "Index " ++ toString i ++ toString " out of bounds for length " ++ toString n : String) → vx_Note p l e R s m args below meth c H locs cells slots Q (F0 m pc ls rest) "java/lang/ArrayIndexOutOfBoundsException" tx) : W p l e R s m args below meth c H locs cells slots Q (F0 m pc ls (.int x :: .int i :: .ref a :: rest)) := by
  intro T hT X
  obtain ⟨t, st, q⟩ := k _ rfl T hT X
  refine ⟨t, ?_, q⟩
  have h1 := X.bastoreOut hexec (by rw [hT]; exact hP q0 _ ha) ((hK.2 t0 _ ht).1 n (fun j => .int (f j))) (j := i) (by show (i < 0 ∨ (arrV _ _ _).slots.size ≤ _); rw [arrV_size]; exact Classical.byContradiction hout) (g := F0 m pc ls (.int x :: .int i :: .ref a :: rest)) rfl (rest := rest) rfl (by rw [hb]; exact hdg) t
  simp only [arrV_size] at h1
  exact h1 st
theorem vx_caldZ {D : va_G} {cl : List vw_C} {ws : va_W} {tys : List (ClassId × FieldType)} {a : Nat} (hexec : p.tables.exec = Jvm.exec) (hb : c.code = cc) (hK : va_K D cl tys s) (hP : va_P D cl ws H) (q0 t0 : Nat) {cA : ClassId} {n : Nat} {f : Nat → Int32} (ha : ws[q0]? = some (a, .inl (cA, n, .inl f))) (ht : tys[t0]? = some (cA, .char)) {i : Int32} (hout : ¬ vp_in i n) (hdg : decode cc pc = .ok (.caload, 1))
    (k : ∀ tx : String, tx = (toString "Index " ++ toString i ++ toString " out of bounds for length " ++ toString n : String) → vx_Note p l e R s m args below meth c H locs cells slots Q (F0 m pc ls rest) "java/lang/ArrayIndexOutOfBoundsException" tx) : W p l e R s m args below meth c H locs cells slots Q (F0 m pc ls (.int i :: .ref a :: rest)) := by
  intro T hT X
  obtain ⟨t, st, q⟩ := k _ rfl T hT X
  refine ⟨t, ?_, q⟩
  have h1 := X.caloadOut hexec (by rw [hT]; exact hP q0 _ ha) ((hK.2 t0 _ ht).1 n (fun j => .int (f j))) (j := i) (by show (i < 0 ∨ (arrV _ _ _).slots.size ≤ _); rw [arrV_size]; exact Classical.byContradiction hout) (g := F0 m pc ls (.int i :: .ref a :: rest)) rfl (rest := rest) rfl (by rw [hb]; exact hdg) t
  simp only [arrV_size] at h1
  exact h1 st
theorem vx_castZ {D : va_G} {cl : List vw_C} {ws : va_W} {tys : List (ClassId × FieldType)} {a : Nat} (hexec : p.tables.exec = Jvm.exec) (hb : c.code = cc) (hK : va_K D cl tys s) (hP : va_P D cl ws H) (q0 t0 : Nat) {cA : ClassId} {n : Nat} {f : Nat → Int32} (ha : ws[q0]? = some (a, .inl (cA, n, .inl f))) (ht : tys[t0]? = some (cA, .char)) {i : Int32} {x : Int32} (hout : ¬ vp_in i n) (hdg : decode cc pc = .ok (.castore, 1))
    (k : ∀ tx : String, tx = (toString "Index " ++ toString i ++ toString " out of bounds for length " ++ toString n : String) → vx_Note p l e R s m args below meth c H locs cells slots Q (F0 m pc ls rest) "java/lang/ArrayIndexOutOfBoundsException" tx) : W p l e R s m args below meth c H locs cells slots Q (F0 m pc ls (.int x :: .int i :: .ref a :: rest)) := by
  intro T hT X
  obtain ⟨t, st, q⟩ := k _ rfl T hT X
  refine ⟨t, ?_, q⟩
  have h1 := X.castoreOut hexec (by rw [hT]; exact hP q0 _ ha) ((hK.2 t0 _ ht).1 n (fun j => .int (f j))) (j := i) (by show (i < 0 ∨ (arrV _ _ _).slots.size ≤ _); rw [arrV_size]; exact Classical.byContradiction hout) (g := F0 m pc ls (.int x :: .int i :: .ref a :: rest)) rfl (rest := rest) rfl (by rw [hb]; exact hdg) t
  simp only [arrV_size] at h1
  exact h1 st
theorem vx_saldZ {D : va_G} {cl : List vw_C} {ws : va_W} {tys : List (ClassId × FieldType)} {a : Nat} (hexec : p.tables.exec = Jvm.exec) (hb : c.code = cc) (hK : va_K D cl tys s) (hP : va_P D cl ws H) (q0 t0 : Nat) {cA : ClassId} {n : Nat} {f : Nat → Int32} (ha : ws[q0]? = some (a, .inl (cA, n, .inl f))) (ht : tys[t0]? = some (cA, .short)) {i : Int32} (hout : ¬ vp_in i n) (hdg : decode cc pc = .ok (.saload, 1))
    (k : ∀ tx : String, tx = (toString "Index " ++ toString i ++ toString " out of bounds for length " ++ toString n : String) → vx_Note p l e R s m args below meth c H locs cells slots Q (F0 m pc ls rest) "java/lang/ArrayIndexOutOfBoundsException" tx) : W p l e R s m args below meth c H locs cells slots Q (F0 m pc ls (.int i :: .ref a :: rest)) := by
  intro T hT X
  obtain ⟨t, st, q⟩ := k _ rfl T hT X
  refine ⟨t, ?_, q⟩
  have h1 := X.saloadOut hexec (by rw [hT]; exact hP q0 _ ha) ((hK.2 t0 _ ht).1 n (fun j => .int (f j))) (j := i) (by show (i < 0 ∨ (arrV _ _ _).slots.size ≤ _); rw [arrV_size]; exact Classical.byContradiction hout) (g := F0 m pc ls (.int i :: .ref a :: rest)) rfl (rest := rest) rfl (by rw [hb]; exact hdg) t
  simp only [arrV_size] at h1
  exact h1 st
theorem vx_sastZ {D : va_G} {cl : List vw_C} {ws : va_W} {tys : List (ClassId × FieldType)} {a : Nat} (hexec : p.tables.exec = Jvm.exec) (hb : c.code = cc) (hK : va_K D cl tys s) (hP : va_P D cl ws H) (q0 t0 : Nat) {cA : ClassId} {n : Nat} {f : Nat → Int32} (ha : ws[q0]? = some (a, .inl (cA, n, .inl f))) (ht : tys[t0]? = some (cA, .short)) {i : Int32} {x : Int32} (hout : ¬ vp_in i n) (hdg : decode cc pc = .ok (.sastore, 1))
    (k : ∀ tx : String, tx = (toString "Index " ++ toString i ++ toString " out of bounds for length " ++ toString n : String) → vx_Note p l e R s m args below meth c H locs cells slots Q (F0 m pc ls rest) "java/lang/ArrayIndexOutOfBoundsException" tx) : W p l e R s m args below meth c H locs cells slots Q (F0 m pc ls (.int x :: .int i :: .ref a :: rest)) := by
  intro T hT X
  obtain ⟨t, st, q⟩ := k _ rfl T hT X
  refine ⟨t, ?_, q⟩
  have h1 := X.sastoreOut hexec (by rw [hT]; exact hP q0 _ ha) ((hK.2 t0 _ ht).1 n (fun j => .int (f j))) (j := i) (by show (i < 0 ∨ (arrV _ _ _).slots.size ≤ _); rw [arrV_size]; exact Classical.byContradiction hout) (g := F0 m pc ls (.int x :: .int i :: .ref a :: rest)) rfl (rest := rest) rfl (by rw [hb]; exact hdg) t
  simp only [arrV_size] at h1
  exact h1 st
theorem vx_laldZ {D : va_G} {cl : List vw_C} {ws : va_W} {tys : List (ClassId × FieldType)} {a : Nat} (hexec : p.tables.exec = Jvm.exec) (hb : c.code = cc) (hK : va_K D cl tys s) (hP : va_P D cl ws H) (q0 t0 : Nat) {cA : ClassId} {n : Nat} {f : Nat → Int64} (ha : ws[q0]? = some (a, .inl (cA, n, .inr (.inl f)))) (ht : tys[t0]? = some (cA, .long)) {i : Int32} (hout : ¬ vp_in i n) (hdg : decode cc pc = .ok (.laload, 1))
    (k : ∀ tx : String, tx = (toString "Index " ++ toString i ++ toString " out of bounds for length " ++ toString n : String) → vx_Note p l e R s m args below meth c H locs cells slots Q (F0 m pc ls rest) "java/lang/ArrayIndexOutOfBoundsException" tx) : W p l e R s m args below meth c H locs cells slots Q (F0 m pc ls (.int i :: .ref a :: rest)) := by
  intro T hT X
  obtain ⟨t, st, q⟩ := k _ rfl T hT X
  refine ⟨t, ?_, q⟩
  have h1 := X.laloadOut hexec (by rw [hT]; exact hP q0 _ ha) ((hK.2 t0 _ ht).1 n (fun j => .long (f j))) (j := i) (by show (i < 0 ∨ (arrV _ _ _).slots.size ≤ _); rw [arrV_size]; exact Classical.byContradiction hout) (g := F0 m pc ls (.int i :: .ref a :: rest)) rfl (rest := rest) rfl (by rw [hb]; exact hdg) t
  simp only [arrV_size] at h1
  exact h1 st
theorem vx_lastZ {D : va_G} {cl : List vw_C} {ws : va_W} {tys : List (ClassId × FieldType)} {a : Nat} (hexec : p.tables.exec = Jvm.exec) (hb : c.code = cc) (hK : va_K D cl tys s) (hP : va_P D cl ws H) (q0 t0 : Nat) {cA : ClassId} {n : Nat} {f : Nat → Int64} (ha : ws[q0]? = some (a, .inl (cA, n, .inr (.inl f)))) (ht : tys[t0]? = some (cA, .long)) {i : Int32} {x : Int64} (hout : ¬ vp_in i n) (hdg : decode cc pc = .ok (.lastore, 1))
    (k : ∀ tx : String, tx = (toString "Index " ++ toString i ++ toString " out of bounds for length " ++ toString n : String) → vx_Note p l e R s m args below meth c H locs cells slots Q (F0 m pc ls rest) "java/lang/ArrayIndexOutOfBoundsException" tx) : W p l e R s m args below meth c H locs cells slots Q (F0 m pc ls (.long x :: .int i :: .ref a :: rest)) := by
  intro T hT X
  obtain ⟨t, st, q⟩ := k _ rfl T hT X
  refine ⟨t, ?_, q⟩
  have h1 := X.lastoreOut hexec (by rw [hT]; exact hP q0 _ ha) ((hK.2 t0 _ ht).1 n (fun j => .long (f j))) (j := i) (by show (i < 0 ∨ (arrV _ _ _).slots.size ≤ _); rw [arrV_size]; exact Classical.byContradiction hout) (g := F0 m pc ls (.long x :: .int i :: .ref a :: rest)) rfl (rest := rest) rfl (by rw [hb]; exact hdg) t
  simp only [arrV_size] at h1
  exact h1 st
theorem vx_faldZ {D : va_G} {cl : List vw_C} {ws : va_W} {tys : List (ClassId × FieldType)} {a : Nat} (hexec : p.tables.exec = Jvm.exec) (hb : c.code = cc) (hK : va_K D cl tys s) (hP : va_P D cl ws H) (q0 t0 : Nat) {cA : ClassId} {n : Nat} {f : Nat → UInt32} (ha : ws[q0]? = some (a, .inl (cA, n, .inr (.inr (.inl f))))) (ht : tys[t0]? = some (cA, .float)) {i : Int32} (hout : ¬ vp_in i n) (hdg : decode cc pc = .ok (.faload, 1))
    (k : ∀ tx : String, tx = (toString "Index " ++ toString i ++ toString " out of bounds for length " ++ toString n : String) → vx_Note p l e R s m args below meth c H locs cells slots Q (F0 m pc ls rest) "java/lang/ArrayIndexOutOfBoundsException" tx) : W p l e R s m args below meth c H locs cells slots Q (F0 m pc ls (.int i :: .ref a :: rest)) := by
  intro T hT X
  obtain ⟨t, st, q⟩ := k _ rfl T hT X
  refine ⟨t, ?_, q⟩
  have h1 := X.faloadOut hexec (by rw [hT]; exact hP q0 _ ha) ((hK.2 t0 _ ht).1 n (fun j => .float (f j))) (j := i) (by show (i < 0 ∨ (arrV _ _ _).slots.size ≤ _); rw [arrV_size]; exact Classical.byContradiction hout) (g := F0 m pc ls (.int i :: .ref a :: rest)) rfl (rest := rest) rfl (by rw [hb]; exact hdg) t
  simp only [arrV_size] at h1
  exact h1 st
theorem vx_fastZ {D : va_G} {cl : List vw_C} {ws : va_W} {tys : List (ClassId × FieldType)} {a : Nat} (hexec : p.tables.exec = Jvm.exec) (hb : c.code = cc) (hK : va_K D cl tys s) (hP : va_P D cl ws H) (q0 t0 : Nat) {cA : ClassId} {n : Nat} {f : Nat → UInt32} (ha : ws[q0]? = some (a, .inl (cA, n, .inr (.inr (.inl f))))) (ht : tys[t0]? = some (cA, .float)) {i : Int32} {x : UInt32} (hout : ¬ vp_in i n) (hdg : decode cc pc = .ok (.fastore, 1))
    (k : ∀ tx : String, tx = (toString "Index " ++ toString i ++ toString " out of bounds for length " ++ toString n : String) → vx_Note p l e R s m args below meth c H locs cells slots Q (F0 m pc ls rest) "java/lang/ArrayIndexOutOfBoundsException" tx) : W p l e R s m args below meth c H locs cells slots Q (F0 m pc ls (.float x :: .int i :: .ref a :: rest)) := by
  intro T hT X
  obtain ⟨t, st, q⟩ := k _ rfl T hT X
  refine ⟨t, ?_, q⟩
  have h1 := X.fastoreOut hexec (by rw [hT]; exact hP q0 _ ha) ((hK.2 t0 _ ht).1 n (fun j => .float (f j))) (j := i) (by show (i < 0 ∨ (arrV _ _ _).slots.size ≤ _); rw [arrV_size]; exact Classical.byContradiction hout) (g := F0 m pc ls (.float x :: .int i :: .ref a :: rest)) rfl (rest := rest) rfl (by rw [hb]; exact hdg) t
  simp only [arrV_size] at h1
  exact h1 st
theorem vx_daldZ {D : va_G} {cl : List vw_C} {ws : va_W} {tys : List (ClassId × FieldType)} {a : Nat} (hexec : p.tables.exec = Jvm.exec) (hb : c.code = cc) (hK : va_K D cl tys s) (hP : va_P D cl ws H) (q0 t0 : Nat) {cA : ClassId} {n : Nat} {f : Nat → UInt64} (ha : ws[q0]? = some (a, .inl (cA, n, .inr (.inr (.inr (.inl f)))))) (ht : tys[t0]? = some (cA, .double)) {i : Int32} (hout : ¬ vp_in i n) (hdg : decode cc pc = .ok (.daload, 1))
    (k : ∀ tx : String, tx = (toString "Index " ++ toString i ++ toString " out of bounds for length " ++ toString n : String) → vx_Note p l e R s m args below meth c H locs cells slots Q (F0 m pc ls rest) "java/lang/ArrayIndexOutOfBoundsException" tx) : W p l e R s m args below meth c H locs cells slots Q (F0 m pc ls (.int i :: .ref a :: rest)) := by
  intro T hT X
  obtain ⟨t, st, q⟩ := k _ rfl T hT X
  refine ⟨t, ?_, q⟩
  have h1 := X.daloadOut hexec (by rw [hT]; exact hP q0 _ ha) ((hK.2 t0 _ ht).1 n (fun j => .double (f j))) (j := i) (by show (i < 0 ∨ (arrV _ _ _).slots.size ≤ _); rw [arrV_size]; exact Classical.byContradiction hout) (g := F0 m pc ls (.int i :: .ref a :: rest)) rfl (rest := rest) rfl (by rw [hb]; exact hdg) t
  simp only [arrV_size] at h1
  exact h1 st
theorem vx_dastZ {D : va_G} {cl : List vw_C} {ws : va_W} {tys : List (ClassId × FieldType)} {a : Nat} (hexec : p.tables.exec = Jvm.exec) (hb : c.code = cc) (hK : va_K D cl tys s) (hP : va_P D cl ws H) (q0 t0 : Nat) {cA : ClassId} {n : Nat} {f : Nat → UInt64} (ha : ws[q0]? = some (a, .inl (cA, n, .inr (.inr (.inr (.inl f)))))) (ht : tys[t0]? = some (cA, .double)) {i : Int32} {x : UInt64} (hout : ¬ vp_in i n) (hdg : decode cc pc = .ok (.dastore, 1))
    (k : ∀ tx : String, tx = (toString "Index " ++ toString i ++ toString " out of bounds for length " ++ toString n : String) → vx_Note p l e R s m args below meth c H locs cells slots Q (F0 m pc ls rest) "java/lang/ArrayIndexOutOfBoundsException" tx) : W p l e R s m args below meth c H locs cells slots Q (F0 m pc ls (.double x :: .int i :: .ref a :: rest)) := by
  intro T hT X
  obtain ⟨t, st, q⟩ := k _ rfl T hT X
  refine ⟨t, ?_, q⟩
  have h1 := X.dastoreOut hexec (by rw [hT]; exact hP q0 _ ha) ((hK.2 t0 _ ht).1 n (fun j => .double (f j))) (j := i) (by show (i < 0 ∨ (arrV _ _ _).slots.size ≤ _); rw [arrV_size]; exact Classical.byContradiction hout) (g := F0 m pc ls (.double x :: .int i :: .ref a :: rest)) rfl (rest := rest) rfl (by rw [hb]; exact hdg) t
  simp only [arrV_size] at h1
  exact h1 st
theorem vx_arraylengthN (hexec : p.tables.exec = Jvm.exec) (hb : c.code = cc) (hdg : decode cc pc = .ok (.arraylength, 1)) (k : vx_NoteN p l e R s m args below meth c H locs cells slots Q (F0 m pc ls rest)) : W p l e R s m args below meth c H locs cells slots Q (F0 m pc ls (.null :: rest)) := by
  intro T hT X
  obtain ⟨t, st, q⟩ := k T hT X
  exact ⟨t, X.arraylengthNull hexec (g := F0 m pc ls (.null :: rest)) rfl (rest := rest) rfl (by rw [hb]; exact hdg) t st, q⟩
theorem vx_ialoadN (hexec : p.tables.exec = Jvm.exec) (hb : c.code = cc) {i : Int32} (hdg : decode cc pc = .ok (.iaload, 1)) (k : vx_NoteN p l e R s m args below meth c H locs cells slots Q (F0 m pc ls rest)) : W p l e R s m args below meth c H locs cells slots Q (F0 m pc ls (.int i :: .null :: rest)) := by
  intro T hT X
  obtain ⟨t, st, q⟩ := k T hT X
  exact ⟨t, X.ialoadNull hexec (g := F0 m pc ls (.int i :: .null :: rest)) rfl (rest := rest) rfl (by rw [hb]; exact hdg) t st, q⟩
theorem vx_laloadN (hexec : p.tables.exec = Jvm.exec) (hb : c.code = cc) {i : Int32} (hdg : decode cc pc = .ok (.laload, 1)) (k : vx_NoteN p l e R s m args below meth c H locs cells slots Q (F0 m pc ls rest)) : W p l e R s m args below meth c H locs cells slots Q (F0 m pc ls (.int i :: .null :: rest)) := by
  intro T hT X
  obtain ⟨t, st, q⟩ := k T hT X
  exact ⟨t, X.laloadNull hexec (g := F0 m pc ls (.int i :: .null :: rest)) rfl (rest := rest) rfl (by rw [hb]; exact hdg) t st, q⟩
theorem vx_faloadN (hexec : p.tables.exec = Jvm.exec) (hb : c.code = cc) {i : Int32} (hdg : decode cc pc = .ok (.faload, 1)) (k : vx_NoteN p l e R s m args below meth c H locs cells slots Q (F0 m pc ls rest)) : W p l e R s m args below meth c H locs cells slots Q (F0 m pc ls (.int i :: .null :: rest)) := by
  intro T hT X
  obtain ⟨t, st, q⟩ := k T hT X
  exact ⟨t, X.faloadNull hexec (g := F0 m pc ls (.int i :: .null :: rest)) rfl (rest := rest) rfl (by rw [hb]; exact hdg) t st, q⟩
theorem vx_daloadN (hexec : p.tables.exec = Jvm.exec) (hb : c.code = cc) {i : Int32} (hdg : decode cc pc = .ok (.daload, 1)) (k : vx_NoteN p l e R s m args below meth c H locs cells slots Q (F0 m pc ls rest)) : W p l e R s m args below meth c H locs cells slots Q (F0 m pc ls (.int i :: .null :: rest)) := by
  intro T hT X
  obtain ⟨t, st, q⟩ := k T hT X
  exact ⟨t, X.daloadNull hexec (g := F0 m pc ls (.int i :: .null :: rest)) rfl (rest := rest) rfl (by rw [hb]; exact hdg) t st, q⟩
theorem vx_aaloadN (hexec : p.tables.exec = Jvm.exec) (hb : c.code = cc) {i : Int32} (hdg : decode cc pc = .ok (.aaload, 1)) (k : vx_NoteN p l e R s m args below meth c H locs cells slots Q (F0 m pc ls rest)) : W p l e R s m args below meth c H locs cells slots Q (F0 m pc ls (.int i :: .null :: rest)) := by
  intro T hT X
  obtain ⟨t, st, q⟩ := k T hT X
  exact ⟨t, X.aaloadNull hexec (g := F0 m pc ls (.int i :: .null :: rest)) rfl (rest := rest) rfl (by rw [hb]; exact hdg) t st, q⟩
theorem vx_baloadN (hexec : p.tables.exec = Jvm.exec) (hb : c.code = cc) {i : Int32} (hdg : decode cc pc = .ok (.baload, 1)) (k : vx_NoteN p l e R s m args below meth c H locs cells slots Q (F0 m pc ls rest)) : W p l e R s m args below meth c H locs cells slots Q (F0 m pc ls (.int i :: .null :: rest)) := by
  intro T hT X
  obtain ⟨t, st, q⟩ := k T hT X
  exact ⟨t, X.baloadNull hexec (g := F0 m pc ls (.int i :: .null :: rest)) rfl (rest := rest) rfl (by rw [hb]; exact hdg) t st, q⟩
theorem vx_caloadN (hexec : p.tables.exec = Jvm.exec) (hb : c.code = cc) {i : Int32} (hdg : decode cc pc = .ok (.caload, 1)) (k : vx_NoteN p l e R s m args below meth c H locs cells slots Q (F0 m pc ls rest)) : W p l e R s m args below meth c H locs cells slots Q (F0 m pc ls (.int i :: .null :: rest)) := by
  intro T hT X
  obtain ⟨t, st, q⟩ := k T hT X
  exact ⟨t, X.caloadNull hexec (g := F0 m pc ls (.int i :: .null :: rest)) rfl (rest := rest) rfl (by rw [hb]; exact hdg) t st, q⟩
theorem vx_saloadN (hexec : p.tables.exec = Jvm.exec) (hb : c.code = cc) {i : Int32} (hdg : decode cc pc = .ok (.saload, 1)) (k : vx_NoteN p l e R s m args below meth c H locs cells slots Q (F0 m pc ls rest)) : W p l e R s m args below meth c H locs cells slots Q (F0 m pc ls (.int i :: .null :: rest)) := by
  intro T hT X
  obtain ⟨t, st, q⟩ := k T hT X
  exact ⟨t, X.saloadNull hexec (g := F0 m pc ls (.int i :: .null :: rest)) rfl (rest := rest) rfl (by rw [hb]; exact hdg) t st, q⟩
theorem vx_iastoreN (hexec : p.tables.exec = Jvm.exec) (hb : c.code = cc) {x : Int32} {i : Int32} (hdg : decode cc pc = .ok (.iastore, 1)) (k : vx_NoteN p l e R s m args below meth c H locs cells slots Q (F0 m pc ls rest)) : W p l e R s m args below meth c H locs cells slots Q (F0 m pc ls (.int x :: .int i :: .null :: rest)) := by
  intro T hT X
  obtain ⟨t, st, q⟩ := k T hT X
  exact ⟨t, X.iastoreNull hexec (g := F0 m pc ls (.int x :: .int i :: .null :: rest)) rfl (rest := rest) rfl (by rw [hb]; exact hdg) t st, q⟩
theorem vx_lastoreN (hexec : p.tables.exec = Jvm.exec) (hb : c.code = cc) {x : Int64} {i : Int32} (hdg : decode cc pc = .ok (.lastore, 1)) (k : vx_NoteN p l e R s m args below meth c H locs cells slots Q (F0 m pc ls rest)) : W p l e R s m args below meth c H locs cells slots Q (F0 m pc ls (.long x :: .int i :: .null :: rest)) := by
  intro T hT X
  obtain ⟨t, st, q⟩ := k T hT X
  exact ⟨t, X.lastoreNull hexec (g := F0 m pc ls (.long x :: .int i :: .null :: rest)) rfl (rest := rest) rfl (by rw [hb]; exact hdg) t st, q⟩
theorem vx_fastoreN (hexec : p.tables.exec = Jvm.exec) (hb : c.code = cc) {x : UInt32} {i : Int32} (hdg : decode cc pc = .ok (.fastore, 1)) (k : vx_NoteN p l e R s m args below meth c H locs cells slots Q (F0 m pc ls rest)) : W p l e R s m args below meth c H locs cells slots Q (F0 m pc ls (.float x :: .int i :: .null :: rest)) := by
  intro T hT X
  obtain ⟨t, st, q⟩ := k T hT X
  exact ⟨t, X.fastoreNull hexec (g := F0 m pc ls (.float x :: .int i :: .null :: rest)) rfl (rest := rest) rfl (by rw [hb]; exact hdg) t st, q⟩
theorem vx_dastoreN (hexec : p.tables.exec = Jvm.exec) (hb : c.code = cc) {x : UInt64} {i : Int32} (hdg : decode cc pc = .ok (.dastore, 1)) (k : vx_NoteN p l e R s m args below meth c H locs cells slots Q (F0 m pc ls rest)) : W p l e R s m args below meth c H locs cells slots Q (F0 m pc ls (.double x :: .int i :: .null :: rest)) := by
  intro T hT X
  obtain ⟨t, st, q⟩ := k T hT X
  exact ⟨t, X.dastoreNull hexec (g := F0 m pc ls (.double x :: .int i :: .null :: rest)) rfl (rest := rest) rfl (by rw [hb]; exact hdg) t st, q⟩
theorem vx_bastoreN (hexec : p.tables.exec = Jvm.exec) (hb : c.code = cc) {x : Int32} {i : Int32} (hdg : decode cc pc = .ok (.bastore, 1)) (k : vx_NoteN p l e R s m args below meth c H locs cells slots Q (F0 m pc ls rest)) : W p l e R s m args below meth c H locs cells slots Q (F0 m pc ls (.int x :: .int i :: .null :: rest)) := by
  intro T hT X
  obtain ⟨t, st, q⟩ := k T hT X
  exact ⟨t, X.bastoreNull hexec (g := F0 m pc ls (.int x :: .int i :: .null :: rest)) rfl (rest := rest) rfl (by rw [hb]; exact hdg) t st, q⟩
theorem vx_castoreN (hexec : p.tables.exec = Jvm.exec) (hb : c.code = cc) {x : Int32} {i : Int32} (hdg : decode cc pc = .ok (.castore, 1)) (k : vx_NoteN p l e R s m args below meth c H locs cells slots Q (F0 m pc ls rest)) : W p l e R s m args below meth c H locs cells slots Q (F0 m pc ls (.int x :: .int i :: .null :: rest)) := by
  intro T hT X
  obtain ⟨t, st, q⟩ := k T hT X
  exact ⟨t, X.castoreNull hexec (g := F0 m pc ls (.int x :: .int i :: .null :: rest)) rfl (rest := rest) rfl (by rw [hb]; exact hdg) t st, q⟩
theorem vx_sastoreN (hexec : p.tables.exec = Jvm.exec) (hb : c.code = cc) {x : Int32} {i : Int32} (hdg : decode cc pc = .ok (.sastore, 1)) (k : vx_NoteN p l e R s m args below meth c H locs cells slots Q (F0 m pc ls rest)) : W p l e R s m args below meth c H locs cells slots Q (F0 m pc ls (.int x :: .int i :: .null :: rest)) := by
  intro T hT X
  obtain ⟨t, st, q⟩ := k T hT X
  exact ⟨t, X.sastoreNull hexec (g := F0 m pc ls (.int x :: .int i :: .null :: rest)) rfl (rest := rest) rfl (by rw [hb]; exact hdg) t st, q⟩
theorem vx_invokeN {own C : String} {index maxL : Nat} {y : MethodName} {bytes : ByteArray} {ret : Option FieldType} (hexec : p.tables.exec = Jvm.exec) (hb : c.code = cc) (hown : s.vm.findClass own = some m.cls) (hlink : (Cond.methodLink own index y).before args s = true) (hinst : (Cond.instanceMethod y).before args s = true) (hcode : (Cond.code y bytes maxL ret).before args s = true) (hsel : (Cond.selects C y y).before args s = true)
    (hx : y.cls ≠ "java/lang/invoke/MethodHandle" ∧ y.cls ≠ "java/lang/invoke/VarHandle") {As : List Value} (hlen : (parseMethodDescriptor y.desc).map (fun d => d.parameters.length) = some As.length) (hdg : decode cc pc = .ok (.invokevirtual index, 3))
    (k : vx_NoteN p l e R s m args below meth c H locs cells slots Q (F0 m pc ls rest)) {st0 : List Value} (hst : st0 = As.reverse ++ .null :: rest) : W p l e R s m args below meth c H locs cells slots Q (F0 m pc ls st0) := by
  intro T hT X
  obtain ⟨r0, r, hn, hrm, hstR, hsigR⟩ := va_Decl.of hinst hcode
  obtain ⟨c2, r2, m2, q1, q2, q3, q4, kP, hkP, hkPi⟩ := Cond.selects_spec hsel
  cases hn.symm.trans q3
  have hl9 : As.length = r.sig.parameters.length := by
    rw [hsigR] at hlen
    exact (Option.some.inj hlen).symm
  obtain ⟨vm', X1, st1⟩ := X.invokevirtualNull hexec hown hlink hn hrm hstR hkP hkPi hx (g := F0 m pc ls st0) rfl (argsL := As) (rest := rest) hl9 hst (by rw [hb]; exact hdg)
  obtain ⟨t, st, q⟩ := k (T.setVm vm') hT X1
  exact ⟨t, st1 t st, q⟩
theorem vx_newarrayZ {atype : ArrayType} (hexec : p.tables.exec = Jvm.exec) (hb : c.code = cc) {n : Int32} (h0 : n < 0) (hdg : decode cc pc = .ok (.newarray atype, 2)) (k : ∀ tx : String, tx = toString n → vx_Note p l e R s m args below meth c H locs cells slots Q (F0 m pc ls rest) "java/lang/NegativeArraySizeException" tx) : W p l e R s m args below meth c H locs cells slots Q (F0 m pc ls (.int n :: rest)) := by
  intro T hT X
  obtain ⟨t, st, q⟩ := k _ rfl T hT X
  exact ⟨t, X.newarrayNegative hexec (g := F0 m pc ls (.int n :: rest)) rfl h0 (rest := rest) rfl (by rw [hb]; exact hdg) t st, q⟩
end
end VXM
/-! ===== END ===== -/
/-! ===== BEGIN an exception as an object: made, kept, thrown later (no traces kept) ===== -/
section VXK
variable {p : Program} {l : Launch} {e : Env} {R : Room} {s : State} {m₀ : MethodId} {args : Array Value} {below : List Frame} {meth : Method} {c : Code} {W : State} {locs : List Loc} {cells slots : Nat}
set_option maxHeartbeats 1000000 in
theorem vx_ctorMadeS (X : Stand p l e R s m₀ args below meth c W locs cells slots) (hexec : p.tables.exec = Jvm.exec) (htr : e.platform.stackTraces = false) {own cls : String} {names : List String} {ic : Nat}
    (hown : s.vm.findClass own = some m₀.cls) (hcls : Bundle.fit cls = true) (hnames : ∀ n ∈ names, Bundle.fit n = true)
    (h : ∀ a ∈ Bundle.ownAtoms own ic cls names, a.before args s = true)
    (hlocs : ∀ x ∈ locs, ∀ cell, s.heap[x.base]? = some cell → cell.vm.isStatics = false)
    {a : Addr} {cX : ClassId} {kX : Class} (hfoundX : s.vm.findClass cls = some cX) (hkX : s.vm.classes[cX]? = some kX) (hcell : W.heap[a]? = some (freshCell cX kX)) (hnew : s.heap.size ≤ a)
    {msg : Value} (hmsg : msg.isRef = true)
    {g : JFrame} (hg : g.method = m₀) (hsize : g.locals.size = c.maxLocals) {rest : List Value} (hstack : g.stack = msg :: .ref a :: .ref a :: rest)
    (hd6 : decode c.code g.pc = .ok (.invokespecial ic, 3))
    (hRframes : names.length + 3 < R.frames) (hRlocals : 2 * g.monitorRoom + ((Value.ref a :: rest).map fun v => v.category).sum + (13 * (names.length + 1) + 42) ≤ R.locals) :
    ∃ (V : State) (ce : Cell) (L : List Loc), Stand p l e R s m₀ args below meth c (V.setCell a ce) (locs ++ L) cells slots ∧ (∀ y ∈ L, y.base = a) ∧ a < V.heap.size ∧ ce.cls = cX ∧ ce.vm = .none ∧
      ∀ target, Steps p.tables e below ((V.setCell a ce).setTop { g with stack := .ref a :: rest, pc := g.pc + 3 }) target → Steps p.tables e below (W.setTop g) target := by
  have howns : e.platform.frameOwnsMonitors = true := by rw [X.admits.platform]
  have hfin : e.platform.finalization = false := by rw [X.admits.platform]
  have hpl : e.platform.magicAccessors = ({} : Platform).magicAccessors := by rw [X.admits.platform]
  have a' : ∀ x, x ∈ Bundle.ownAtoms own ic cls names → x.holds args s none s [] = true := fun x hx => h x hx
  obtain ⟨T, Z0, L, -, Y⟩ := ThrowableC.of_atoms (args := args) howns hfin hpl (fun x hx => h x (by simp [Bundle.ownAtoms, hx]))
  obtain ⟨Z, M, LZ, LM, hnZ⟩ := Init0T.ofS_atoms (args := args) hpl L Y (fun x hx => h x (by simp [Bundle.ownAtoms, hx]))
  obtain ⟨P1, Ps, hlen, L1, hL, hP1m, hlink1, hlink⟩ := Bundle.chainS (args := args) hpl hnZ names cls hcls hnames (fun x hx => h x (by simp [Bundle.ownAtoms, hx]))
  have hfound : s.vm.findClass cls = some P1.m.cls := findClass_of_methodNamed hP1m
  cases Option.some.inj (hfoundX.symm.trans hfound)
  obtain ⟨c1, kX', hc1, hk, hord, -, -, hn6⟩ := Cond.instantiable_spec (a' (.instantiable cls 6) (by simp [Bundle.ownAtoms]))
  cases Option.some.inj (hc1.symm.trans hfound)
  cases Option.some.inj (hkX.symm.trans hk)
  have hsel0 : selectMethod e.platform s.vm P1.m.cls T.fill0 = .method T.fill0 := by
    obtain ⟨c2, r2, m2, q1, q2, q3, q4, -⟩ := Cond.selects_spec (a' (.selects cls Bundle.tFill0 Bundle.tFill0) (by simp [Bundle.ownAtoms]))
    cases Option.some.inj (q1.symm.trans hfound)
    cases Option.some.inj (q2.symm.trans (State.methodFound?_of_named Y.fill0 (by decide)))
    cases Option.some.inj (q3.symm.trans Y.fill0)
    rw [Launch.admits_selectMethod X.admits]; exact q4
  have hselF : selectMethod e.platform s.vm P1.m.cls T.fill = .method T.fill := by
    obtain ⟨c2, r2, m2, q1, q2, q3, q4, -⟩ := Cond.selects_spec (a' (.selects cls Bundle.tFill Bundle.tFill) (by simp [Bundle.ownAtoms]))
    cases Option.some.inj (q1.symm.trans hfound)
    cases Option.some.inj (q2.symm.trans (State.methodFound?_of_named Y.fill (by decide)))
    cases Option.some.inj (q3.symm.trans Y.fill)
    rw [Launch.admits_selectMethod X.admits]; exact q4
  obtain ⟨cellS0, hcS0, hiss⟩ := Y.statics
  obtain ⟨u0, hu0⟩ := Cond.staticRefV Y.unassigned L.unassignedStatic L.statics hcS0 hiss (a' (.isRef (.static Bundle.tN "UNASSIGNED_STACK" Bundle.steD)) (by simp [Bundle.ownAtoms]))
  obtain ⟨sen, hsen⟩ := Cond.staticRefV Y.sentinel L.sentinelStatic L.statics hcS0 hiss (a' (.isRef (.static Bundle.tN "SUPPRESSED_SENTINEL" Bundle.listD)) (by simp [Bundle.ownAtoms]))
  obtain ⟨ci198, i198, fB, hk198, hg198, ha198, hsB, -, hnB, htB, hffB⟩ := Cond.ownField (t := .object "java/lang/Object") Y.found L.cls (by decide +kernel) (a' (.fieldLink Bundle.tN 198 Bundle.tN "backtrace" "Ljava/lang/Object;") (by simp [Bundle.ownAtoms])) (a' (.lays Bundle.tN Bundle.tN "backtrace" "Ljava/lang/Object;") (by simp [Bundle.ownAtoms])) e.platform hpl
  obtain ⟨cellS, hcS', heS, -, hkeep⟩ := X.same.2.2.2.2.2 T.aS cellS0 hcS0
  have hcellS : W.heap[T.aS]? = some cellS := hcS'
  have hout' : ∀ i, (⟨T.aS, i⟩ : Loc) ∉ locs := fun i hmem => by
    have := hlocs _ hmem cellS0 hcS0
    rw [hiss] at this; cases this
  have hknownS : cellS.vm ≠ .unknown := by
    rw [heS]; intro hu
    rw [show cellS0.vm = .unknown from hu] at hiss
    cases hiss
  have hneS : T.aS ≠ a := Nat.ne_of_lt (Nat.lt_of_lt_of_le (Array.getElem?_eq_some_iff.mp hcS0).1 hnew)
  obtain ⟨iM, hffM⟩ := Y.msg
  obtain ⟨tyC, dC, hdC, hdnC⟩ := Cond.laysAt hfound hk Y.cause (a' (.lays cls Bundle.tN "cause" "Ljava/lang/Throwable;") (by simp [Bundle.ownAtoms]))
  obtain ⟨tyS, dS, hdS, hdnS⟩ := Cond.laysAt hfound hk Y.stack (a' (.lays cls Bundle.tN "stackTrace" Bundle.steD) (by simp [Bundle.ownAtoms]))
  obtain ⟨tyP, dP, hdP, hdnP⟩ := Cond.laysAt hfound hk Y.supp (a' (.lays cls Bundle.tN "suppressedExceptions" Bundle.listD) (by simp [Bundle.ownAtoms]))
  obtain ⟨tyM, dM, hdM, hdnM⟩ := Cond.laysAt hfound hk hffM (a' (.lays cls Bundle.tN "detailMessage" "Ljava/lang/String;") (by simp [Bundle.ownAtoms]))
  obtain ⟨tyB, dB, hdB, hdnB⟩ := Cond.laysAt hfound hk hffB (a' (.lays cls Bundle.tN "backtrace" "Ljava/lang/Object;") (by simp [Bundle.ownAtoms]))
  have bC := Cond.laysApart hdB hdC hdnB hdnC (by rw [hnB, Y.causeName]; decide)
  have bS := Cond.laysApart hdB hdS hdnB hdnS (by rw [hnB, Y.stackName]; decide)
  have bP := Cond.laysApart hdB hdP hdnB hdnP (by rw [hnB, Y.suppName]; decide)
  have hskip : SkipFacts T e.platform s (fun u => u) u0 ((preparedCellV T.toThrowableT (freshCell P1.m.cls kX) a u0 sen).withEntry W.cur) :=
    ⟨{ ci198 := ci198, i198 := i198, fBack := fB }, ⟨hk198, hg198, ha198, hsB⟩, by
      have := fresh_default (c := P1.m.cls) tyB
      rw [htB] at this
      simpa [preparedCellV, Cell.setSlot, Cell.withEntry, Array.getElem?_setIfInBounds, bC, bS, bP, bC.symm, bS.symm, bP.symm, defaultValue] using this, fun _ _ => rfl⟩
  obtain ⟨tm, methC, cdC, kC, vm₁, hnC, -, -, -, -, -, -, -, hW₁, st1⟩ := Steps.initColdS (tb := p.tables) (e := e) (below := below) (s := s) (U := W) X.here hexec X.warmed hpl hown (t := Bundle.initS cls) rfl rfl (Bundle.fit_spec hcls).2
    (a' (.methodLink own ic (Bundle.initS cls)) (by simp [Bundle.ownAtoms])) (h (.instanceMethod (Bundle.initS cls)) (by cases names <;> simp [Bundle.ownAtoms, Bundle.chainSAtoms, Bundle.passSAtoms])) (bytes := Bundle.six) (maxL := 2) (h (.code (Bundle.initS cls) Bundle.six 2 none) (by cases names <;> simp [Bundle.ownAtoms, Bundle.chainSAtoms, Bundle.passSAtoms]))
    (f := g) hg (a := a) (msg := msg) (rest := .ref a :: rest) hstack hd6
  cases Option.some.inj (hnC.symm.trans hP1m)
  have X₁ := X.noted hW₁
  obtain ⟨vm₂, X₂, st2⟩ := X₁.ctorMessageOffV hexec (g := { g with stack := .ref a :: rest }) hg hsize T L Z LZ M LM (P1 :: Ps)
    (fun P hP => by rcases List.mem_cons.mp hP with rfl | hP; exact L1; exact hL P hP) ⟨hlink1, hlink⟩ (u0 := u0) (sen := sen) (self := a) hmsg (cell := freshCell P1.m.cls kX) (cellS := cellS)
    hcell (fun _ => by simp) (by simp) rfl rfl hsel0 hselF hcellS hneS hknownS (by rw [hkeep _ (hout' _)]; exact hu0) (by rw [hkeep _ (hout' _)]; exact hsen)
    (Takes.of_laid hk hord tyC (by rw [Y.causeType]; rfl)) (Takes.of_laid hk hord tyS (by rw [Y.stackType]; exact fits_refV_array _ u0)) (Takes.of_laid hk hord tyP (by rw [Y.suppType]; exact fits_refV_object _ sen))
    (Takes.of_laid hk hord tyM (by rw [Y.msgType]; exact fits_refV_object _ ⟨msg, hmsg⟩)) Y.objLocals hskip htr [] hd6
    (by simp only [List.length_cons, hlen]; omega) (by simp only [List.length_cons, hlen]; exact hRlocals)
  have hlt : a < ((W.setVm vm₁).setVm vm₂).heap.size := (Array.getElem?_eq_some_iff.mp hcell).1
  refine ⟨(W.setVm vm₁).setVm vm₂, _, _, X₂, fun y hy => ?_, hlt, rfl, rfl, fun target hwalk => st1 _ (fun acts => ?_)⟩
  · simp only [List.mem_cons, List.not_mem_nil, or_false] at hy
    rcases hy with rfl | rfl | rfl | rfl | rfl <;> rfl
  · rw [doInvoke_state]
    exact st2 _ hwalk
set_option maxHeartbeats 1000000 in
theorem vx_ctorMade0 (X : Stand p l e R s m₀ args below meth c W locs cells slots) (hexec : p.tables.exec = Jvm.exec) (htr : e.platform.stackTraces = false) {own cls : String} {names : List String} {ic : Nat}
    (hown : s.vm.findClass own = some m₀.cls) (hcls : Bundle.fit cls = true) (hnames : ∀ n ∈ names, Bundle.fit n = true)
    (h : ∀ a ∈ Bundle.ownAtoms0 own ic cls names, a.before args s = true)
    (hlocs : ∀ x ∈ locs, ∀ cell, s.heap[x.base]? = some cell → cell.vm.isStatics = false)
    {a : Addr} {cX : ClassId} {kX : Class} (hfoundX : s.vm.findClass cls = some cX) (hkX : s.vm.classes[cX]? = some kX) (hcell : W.heap[a]? = some (freshCell cX kX)) (hnew : s.heap.size ≤ a)
    {g : JFrame} (hg : g.method = m₀) (hsize : g.locals.size = c.maxLocals) {rest : List Value} (hstack : g.stack = .ref a :: .ref a :: rest)
    (hd6 : decode c.code g.pc = .ok (.invokespecial ic, 3))
    (hRframes : names.length + 3 < R.frames) (hRlocals : 2 * g.monitorRoom + ((Value.ref a :: rest).map fun v => v.category).sum + (13 * (names.length + 1) + 41) ≤ R.locals) :
    ∃ (V : State) (ce : Cell) (L : List Loc), Stand p l e R s m₀ args below meth c (V.setCell a ce) (locs ++ L) cells slots ∧ (∀ y ∈ L, y.base = a) ∧ a < V.heap.size ∧ ce.cls = cX ∧ ce.vm = .none ∧
      ∀ target, Steps p.tables e below ((V.setCell a ce).setTop { g with stack := .ref a :: rest, pc := g.pc + 3 }) target → Steps p.tables e below (W.setTop g) target := by
  have howns : e.platform.frameOwnsMonitors = true := by rw [X.admits.platform]
  have hfin : e.platform.finalization = false := by rw [X.admits.platform]
  have hpl : e.platform.magicAccessors = ({} : Platform).magicAccessors := by rw [X.admits.platform]
  have a' : ∀ x, x ∈ Bundle.ownAtoms0 own ic cls names → x.holds args s none s [] = true := fun x hx => h x hx
  obtain ⟨T, Z, L, LZ, Y⟩ := ThrowableC.of_atoms (args := args) howns hfin hpl (fun x hx => h x (by simp [Bundle.ownAtoms0, hx]))
  obtain ⟨P1, Ps, hlen, L1, hL, hP1m, hlink1, hlink⟩ := Bundle.chain0 (args := args) hpl Y.init0 names cls hcls hnames (fun x hx => h x (by simp [Bundle.ownAtoms0, hx]))
  have hfound : s.vm.findClass cls = some P1.m.cls := findClass_of_methodNamed hP1m
  cases Option.some.inj (hfoundX.symm.trans hfound)
  obtain ⟨c1, kX', hc1, hk, hord, -, -, hn6⟩ := Cond.instantiable_spec (a' (.instantiable cls 6) (by simp [Bundle.ownAtoms0]))
  cases Option.some.inj (hc1.symm.trans hfound)
  cases Option.some.inj (hkX.symm.trans hk)
  have hsel0 : selectMethod e.platform s.vm P1.m.cls T.fill0 = .method T.fill0 := by
    obtain ⟨c2, r2, m2, q1, q2, q3, q4, -⟩ := Cond.selects_spec (a' (.selects cls Bundle.tFill0 Bundle.tFill0) (by simp [Bundle.ownAtoms0]))
    cases Option.some.inj (q1.symm.trans hfound)
    cases Option.some.inj (q2.symm.trans (State.methodFound?_of_named Y.fill0 (by decide)))
    cases Option.some.inj (q3.symm.trans Y.fill0)
    rw [Launch.admits_selectMethod X.admits]; exact q4
  have hselF : selectMethod e.platform s.vm P1.m.cls T.fill = .method T.fill := by
    obtain ⟨c2, r2, m2, q1, q2, q3, q4, -⟩ := Cond.selects_spec (a' (.selects cls Bundle.tFill Bundle.tFill) (by simp [Bundle.ownAtoms0]))
    cases Option.some.inj (q1.symm.trans hfound)
    cases Option.some.inj (q2.symm.trans (State.methodFound?_of_named Y.fill (by decide)))
    cases Option.some.inj (q3.symm.trans Y.fill)
    rw [Launch.admits_selectMethod X.admits]; exact q4
  obtain ⟨cellS0, hcS0, hiss⟩ := Y.statics
  obtain ⟨u0, hu0⟩ := Cond.staticRefV Y.unassigned L.unassignedStatic L.statics hcS0 hiss (a' (.isRef (.static Bundle.tN "UNASSIGNED_STACK" Bundle.steD)) (by simp [Bundle.ownAtoms0]))
  obtain ⟨sen, hsen⟩ := Cond.staticRefV Y.sentinel L.sentinelStatic L.statics hcS0 hiss (a' (.isRef (.static Bundle.tN "SUPPRESSED_SENTINEL" Bundle.listD)) (by simp [Bundle.ownAtoms0]))
  obtain ⟨ci198, i198, fB, hk198, hg198, ha198, hsB, -, hnB, htB, hffB⟩ := Cond.ownField (t := .object "java/lang/Object") Y.found L.cls (by decide +kernel) (a' (.fieldLink Bundle.tN 198 Bundle.tN "backtrace" "Ljava/lang/Object;") (by simp [Bundle.ownAtoms0])) (a' (.lays Bundle.tN Bundle.tN "backtrace" "Ljava/lang/Object;") (by simp [Bundle.ownAtoms0])) e.platform hpl
  obtain ⟨cellS, hcS', heS, -, hkeep⟩ := X.same.2.2.2.2.2 T.aS cellS0 hcS0
  have hcellS : W.heap[T.aS]? = some cellS := hcS'
  have hout' : ∀ i, (⟨T.aS, i⟩ : Loc) ∉ locs := fun i hmem => by
    have := hlocs _ hmem cellS0 hcS0
    rw [hiss] at this; cases this
  have hknownS : cellS.vm ≠ .unknown := by
    rw [heS]; intro hu
    rw [show cellS0.vm = .unknown from hu] at hiss
    cases hiss
  have hneS : T.aS ≠ a := Nat.ne_of_lt (Nat.lt_of_lt_of_le (Array.getElem?_eq_some_iff.mp hcS0).1 hnew)
  obtain ⟨iM, hffM⟩ := Y.msg
  obtain ⟨tyC, dC, hdC, hdnC⟩ := Cond.laysAt hfound hk Y.cause (a' (.lays cls Bundle.tN "cause" "Ljava/lang/Throwable;") (by simp [Bundle.ownAtoms0]))
  obtain ⟨tyS, dS, hdS, hdnS⟩ := Cond.laysAt hfound hk Y.stack (a' (.lays cls Bundle.tN "stackTrace" Bundle.steD) (by simp [Bundle.ownAtoms0]))
  obtain ⟨tyP, dP, hdP, hdnP⟩ := Cond.laysAt hfound hk Y.supp (a' (.lays cls Bundle.tN "suppressedExceptions" Bundle.listD) (by simp [Bundle.ownAtoms0]))
  obtain ⟨tyM, dM, hdM, hdnM⟩ := Cond.laysAt hfound hk hffM (a' (.lays cls Bundle.tN "detailMessage" "Ljava/lang/String;") (by simp [Bundle.ownAtoms0]))
  obtain ⟨tyB, dB, hdB, hdnB⟩ := Cond.laysAt hfound hk hffB (a' (.lays cls Bundle.tN "backtrace" "Ljava/lang/Object;") (by simp [Bundle.ownAtoms0]))
  have bC := Cond.laysApart hdB hdC hdnB hdnC (by rw [hnB, Y.causeName]; decide)
  have bS := Cond.laysApart hdB hdS hdnB hdnS (by rw [hnB, Y.stackName]; decide)
  have bP := Cond.laysApart hdB hdP hdnB hdnP (by rw [hnB, Y.suppName]; decide)
  have hskip : SkipFacts T e.platform s (fun u => u) u0 ((preparedCellV T.toThrowableT (freshCell P1.m.cls kX) a u0 sen).withEntry W.cur) :=
    ⟨{ ci198 := ci198, i198 := i198, fBack := fB }, ⟨hk198, hg198, ha198, hsB⟩, by
      have := fresh_default (c := P1.m.cls) tyB
      rw [htB] at this
      simpa [preparedCellV, Cell.setSlot, Cell.withEntry, Array.getElem?_setIfInBounds, bC, bS, bP, bC.symm, bS.symm, bP.symm, defaultValue] using this, fun _ _ => rfl⟩
  obtain ⟨tm, methC, cdC, kC, vm₁, hnC, -, -, -, -, -, -, -, hW₁, st1⟩ := Steps.initCold (tb := p.tables) (e := e) (below := below) (s := s) (U := W) X.here hexec X.warmed hpl hown (t := Bundle.init0 cls) rfl rfl (Bundle.fit_spec hcls).2
    (a' (.methodLink own ic (Bundle.init0 cls)) (by simp [Bundle.ownAtoms0])) (h (.instanceMethod (Bundle.init0 cls)) (by cases names <;> simp [Bundle.ownAtoms0, Bundle.chain0Atoms, Bundle.passAtoms])) (bytes := Bundle.five) (maxL := 1) (h (.code (Bundle.init0 cls) Bundle.five 1 none) (by cases names <;> simp [Bundle.ownAtoms0, Bundle.chain0Atoms, Bundle.passAtoms]))
    (f := g) hg (a := a) (rest := .ref a :: rest) hstack hd6
  cases Option.some.inj (hnC.symm.trans hP1m)
  have X₁ := X.noted hW₁
  obtain ⟨vm₂, X₂, st2⟩ := X₁.ctorPlainOffV hexec (g := { g with stack := .ref a :: rest }) hg hsize T L Z LZ (P1 :: Ps)
    (fun P hP => by rcases List.mem_cons.mp hP with rfl | hP; exact L1; exact hL P hP) ⟨hlink1, hlink⟩ (u0 := u0) (sen := sen) (self := a) (cell := freshCell P1.m.cls kX) (cellS := cellS)
    hcell (fun _ => by simp) (by simp) rfl rfl hsel0 hselF hcellS hneS hknownS (by rw [hkeep _ (hout' _)]; exact hu0) (by rw [hkeep _ (hout' _)]; exact hsen)
    (Takes.of_laid hk hord tyC (by rw [Y.causeType]; rfl)) (Takes.of_laid hk hord tyS (by rw [Y.stackType]; exact fits_refV_array _ u0)) (Takes.of_laid hk hord tyP (by rw [Y.suppType]; exact fits_refV_object _ sen)) Y.objLocals hskip htr [] hd6
    (by simp only [List.length_cons, hlen]; omega) (by simp only [List.length_cons, hlen]; exact hRlocals)
  have hlt : a < ((W.setVm vm₁).setVm vm₂).heap.size := (Array.getElem?_eq_some_iff.mp hcell).1
  refine ⟨(W.setVm vm₁).setVm vm₂, _, _, X₂, fun y hy => ?_, hlt, rfl, rfl, fun target hwalk => st1 _ (fun acts => ?_)⟩
  · simp only [List.mem_cons, List.not_mem_nil, or_false] at hy
    rcases hy with rfl | rfl | rfl | rfl <;> rfl
  · rw [doInvoke_state]
    exact st2 _ hwalk
end VXK
section VXK2
variable {p : Program} {l : Launch} {e : Env} {R : Room} {s : State} {m : MethodId} {args : Array Value} {below : List Frame} {meth : Method} {c : Code} {H : Heap} {locs : List Loc} {cells slots : Nat} {Q : State → Prop}
variable {ls : Array Slot} {rest : List Value} {D : va_G} {cl : List vw_C} {tys : List (ClassId × FieldType)} {ws : va_W}
/-- 'new E("text")' that isn't thrown at once: the object goes on the stack -/
theorem vx_makeS {cc : ByteArray} {pc : Nat} (hexec : p.tables.exec = Jvm.exec) (hb : c.code = cc) (hl : l.stackTraces = false) {own cls text : String} {names : List String} {ik is ic sa ci : Nat} {A : Nat → Prop} {T0 : u_T}
    (hown : s.vm.findClass own = some m.cls) (hcls : Bundle.fit cls = true) (hnames : ∀ n ∈ names, Bundle.fit n = true)
    (hk : (Cond.classLink own ik cls).before args s = true) (hini : (Cond.initialized cls).before args s = true) (hstr : vk_R own is text sa s) (hat : ∀ w ∈ vx_atS own ic cls names, w.before args s = true)
    (hgood : ∀ w ∈ Cond.classLink own ik cls :: Cond.initialized cls :: vx_atS own ic cls names, vx_ot w = true)
    (hU : vx_Zq Bundle.tN "UNASSIGNED_STACK" Bundle.steD A s s.heap) (hN : vx_Zq Bundle.tN "SUPPRESSED_SENTINEL" Bundle.listD A s s.heap) (hS : va_S A s.heap H locs) (hsize : ls.size = c.maxLocals)
    (d0 : decode cc pc = .ok (.new ik, 3)) (d3 : decode cc (pc + 3) = .ok (.dup, 1)) (d4 : decode cc (pc + 4) = .ok (.ldc is, 2)) (d6 : decode cc (pc + 6) = .ok (.invokespecial ic, 3))
    (hK : va_K D cl tys s) (hP : va_P D cl ws H) (hD : va_D A ws) (hA : ∀ q, s.heap.size ≤ q → A q) (hc : cl[ci]? = some (cls, T0, 0))
    (hRframes : names.length + 3 < R.frames) (hRlocals : (rest.map fun v => v.category).sum + (13 * (names.length + 1) + 43) ≤ R.locals) (hRcells : cells + 1 ≤ R.cells) (hRslots : slots + 6 ≤ R.slots)
    (kk : ∀ (q : Nat) (H1 : Heap), va_P D cl (ws ++ [(q, .inr (ci, []))]) H1 → va_D A (ws ++ [(q, .inr (ci, []))]) → va_S A s.heap H1 locs → W p l e R s m args below meth c H1 locs (cells + 1) (slots + 6) Q (F0 m (pc + 9) ls (.ref q :: rest))) :
    W p l e R s m args below meth c H locs cells slots Q (F0 m pc ls rest) := by
  intro T hT X
  subst hT
  have htr : e.platform.stackTraces = false := (show e.platform.stackTraces = l.stackTraces by rw [X.admits.platform]).trans hl
  have Y := vx_rebase X (R' := { frames := R.frames, locals := R.locals, cells := 1, slots := 6 }) (Nat.le_refl _) (Nat.le_refl _) hRcells hRslots
  obtain ⟨s', hA'⟩ : ∃ z, z = (T.setVm s.vm).setFrames (.invoking m args :: below) := ⟨_, rfl⟩
  rw [← hA'] at Y
  have hvm : s'.vm = s.vm := by rw [hA']; rfl
  have hhp : s'.heap = T.heap := by rw [hA']; rfl
  have hW0 : s.WarmedH s'.vm := by rw [hvm]; exact State.WarmedH.refl s
  have hat' : ∀ w ∈ vx_atS own ic cls names, w.before args s' = true := fun w hw => vx_ot_at hW0 hvm.symm (hgood w (List.mem_cons_of_mem _ (List.mem_cons_of_mem _ hw))) (hat w hw)
  have hk' : (Cond.classLink own ik cls).before args s' = true := vx_ot_at hW0 hvm.symm (hgood _ List.mem_cons_self) hk
  have hini' : (Cond.initialized cls).before args s' = true := vx_ot_at hW0 hvm.symm (hgood _ (List.mem_cons_of_mem _ List.mem_cons_self)) hini
  have hU' : vx_Zq Bundle.tN "UNASSIGNED_STACK" Bundle.steD A s' s'.heap := by rw [hhp]; exact vx_Zq.moved hW0.alike (hU.kept hS.2.1)
  have hN' : vx_Zq Bundle.tN "SUPPRESSED_SENTINEL" Bundle.listD A s' s'.heap := by rw [hhp]; exact vx_Zq.moved hW0.alike (hN.kept hS.2.1)
  have h : ∀ w ∈ Bundle.ownAtoms own ic cls names, w.before args s' = true := vx_own hat' (vx_isRefq hU'.1) (vx_isRefq hN'.1) hU'.2.word hN'.2.word
  have hown' : s'.vm.findClass own = some m.cls := by rw [hvm]; exact hown
  have hins : (Cond.instantiable cls 6).before args s' = true := h _ (by simp [Bundle.ownAtoms])
  obtain ⟨vm₁, cX, kX, hfX, hkX, -, -, X₁, st1⟩ := Y.newCold hexec (own := own) (C := cls) (index := ik) (n := 6) hown' hk' hins hini'
    (g := F0 m pc ls rest) rfl (by rw [hb]; exact d0) (Nat.le_refl _) (Nat.le_refl _)
  generalize hT1 : (T.setVm vm₁).pushCell { cls := cX, slots := kX.instanceTypes.map defaultValue, vm := .none } = T1 at X₁ st1
  have hcat : (Value.ref T.heap.size).category = 1 := rfl
  have hcellA : T1.heap[T.heap.size]? = some (freshCell cX kX) := by rw [← hT1]; exact State.heap_pushCell_size _ _
  have d3' : decode c.code (pc + 3) = .ok (.dup, 1) := by rw [hb]; exact d3
  have d4' : decode c.code (pc + 4) = .ok (.ldc is, 2) := by rw [hb]; exact d4
  have hstr' : vk_R own is text sa s' := vk_R.warm hW0 hstr
  obtain ⟨V, ce, L, Z, hL, hlt, hcl9, hvm9, st⟩ := vx_ctorMadeS X₁ hexec htr (own := own) (cls := cls) (names := names) (ic := ic) hown' hcls hnames h (fun x hx => nomatch hx) hfX hkX hcellA (by rw [hhp]; exact Nat.le_refl _) (msg := .ref sa) rfl
    (g := { method := m, pc := pc + 6, locals := ls, stack := .ref sa :: .ref T.heap.size :: .ref T.heap.size :: rest, locked := none }) rfl hsize (rest := rest) rfl
    (by rw [hb]; exact d6) hRframes (by simp only [List.map_cons, List.sum_cons, hcat]; omega)
  have Z0 := Stand.forget (locs := []) Z (fun y hy => by rw [hL y hy, hhp]; exact Nat.le_refl _)
  obtain ⟨f1, f2⟩ := vx_frame Z0.same
  rw [hhp] at f1 f2
  have hcid : ce.cls = D.1 ci := by
    rw [hcl9]
    have h1 := (hK.1 ci _ hc).2.1
    rw [hvm] at hfX
    exact Option.some.inj (hfX.symm.trans h1)
  have hh : (V.setCell T.heap.size ce).heap[T.heap.size]? = some ce := heapAt_setCell_self (s := V) ce hlt
  subst hA'
  have X5 := vx_back9 X Y Z0
  have X6 : Stand p l e R s m args below meth c (V.setCell T.heap.size ce) locs (cells + 1) (slots + 6) := { X5 with same := X5.same.mono (by omega) (by omega) }
  have hk9 : ∀ (k : Nat) (x : Nat × va_E), ws[k]? = some x → (V.setCell T.heap.size ce).heap[x.1]? = T.heap[x.1]? := fun k x hx => f2 x.1 ((hP k x hx).lt) (fun z hz => nomatch hz)
  obtain ⟨t, a1, b1⟩ := kk T.heap.size (V.setCell T.heap.size ce).heap ((hP.kept hk9).app (fun k x hx => by
      have hz : k < 1 := (List.getElem?_eq_some_iff.mp hx).1
      rw [show k = 0 by omega] at hx
      cases hx
      exact ⟨_, hc, ce, hh, hcid, hvm9, fun k hk => absurd hk (Nat.not_lt_zero k)⟩)) (hD.push hP rfl (hA _ hS.1)) ⟨Nat.le_trans hS.1 f1, fun q h1 h2 => (f2 q (Nat.lt_of_lt_of_le h1 hS.1) (fun z hz => nomatch hz)).trans (hS.2.1 q h1 h2), hS.2.2⟩ _ rfl X6
  refine ⟨t, st1 _ ?_, b1⟩
  show Steps p.tables e below (T1.setTop { method := m, pc := pc + 3, locals := ls, stack := .ref T.heap.size :: rest, locked := none }) _
  jvm_step X₁.here [X₁.here.top, hexec, d3', Value.category]
  exact X₁.ldcString hexec (own := own) (text := text) (index := is) (a := sa) hown' hstr'.1 hstr'.2
    (g := { method := m, pc := pc + 4, locals := ls, stack := .ref T.heap.size :: .ref T.heap.size :: rest, locked := none }) rfl d4' _ (st _ a1)
/-- 'new E()' that isn't thrown at once: the object goes on the stack -/
theorem vx_make0 {cc : ByteArray} {pc : Nat} (hexec : p.tables.exec = Jvm.exec) (hb : c.code = cc) (hl : l.stackTraces = false) {own cls : String} {names : List String} {ik ic ci : Nat} {A : Nat → Prop} {T0 : u_T}
    (hown : s.vm.findClass own = some m.cls) (hcls : Bundle.fit cls = true) (hnames : ∀ n ∈ names, Bundle.fit n = true)
    (hk : (Cond.classLink own ik cls).before args s = true) (hini : (Cond.initialized cls).before args s = true) (hat : ∀ w ∈ vx_at0 own ic cls names, w.before args s = true)
    (hgood : ∀ w ∈ Cond.classLink own ik cls :: Cond.initialized cls :: vx_at0 own ic cls names, vx_ot w = true)
    (hU : vx_Zq Bundle.tN "UNASSIGNED_STACK" Bundle.steD A s s.heap) (hN : vx_Zq Bundle.tN "SUPPRESSED_SENTINEL" Bundle.listD A s s.heap) (hS : va_S A s.heap H locs) (hsize : ls.size = c.maxLocals)
    (d0 : decode cc pc = .ok (.new ik, 3)) (d3 : decode cc (pc + 3) = .ok (.dup, 1)) (d4 : decode cc (pc + 4) = .ok (.invokespecial ic, 3))
    (hK : va_K D cl tys s) (hP : va_P D cl ws H) (hD : va_D A ws) (hA : ∀ q, s.heap.size ≤ q → A q) (hc : cl[ci]? = some (cls, T0, 0))
    (hRframes : names.length + 3 < R.frames) (hRlocals : (rest.map fun v => v.category).sum + (13 * (names.length + 1) + 42) ≤ R.locals) (hRcells : cells + 1 ≤ R.cells) (hRslots : slots + 6 ≤ R.slots)
    (kk : ∀ (q : Nat) (H1 : Heap), va_P D cl (ws ++ [(q, .inr (ci, []))]) H1 → va_D A (ws ++ [(q, .inr (ci, []))]) → va_S A s.heap H1 locs → W p l e R s m args below meth c H1 locs (cells + 1) (slots + 6) Q (F0 m (pc + 7) ls (.ref q :: rest))) :
    W p l e R s m args below meth c H locs cells slots Q (F0 m pc ls rest) := by
  intro T hT X
  subst hT
  have htr : e.platform.stackTraces = false := (show e.platform.stackTraces = l.stackTraces by rw [X.admits.platform]).trans hl
  have Y := vx_rebase X (R' := { frames := R.frames, locals := R.locals, cells := 1, slots := 6 }) (Nat.le_refl _) (Nat.le_refl _) hRcells hRslots
  obtain ⟨s', hA'⟩ : ∃ z, z = (T.setVm s.vm).setFrames (.invoking m args :: below) := ⟨_, rfl⟩
  rw [← hA'] at Y
  have hvm : s'.vm = s.vm := by rw [hA']; rfl
  have hhp : s'.heap = T.heap := by rw [hA']; rfl
  have hW0 : s.WarmedH s'.vm := by rw [hvm]; exact State.WarmedH.refl s
  have hat' : ∀ w ∈ vx_at0 own ic cls names, w.before args s' = true := fun w hw => vx_ot_at hW0 hvm.symm (hgood w (List.mem_cons_of_mem _ (List.mem_cons_of_mem _ hw))) (hat w hw)
  have hk' : (Cond.classLink own ik cls).before args s' = true := vx_ot_at hW0 hvm.symm (hgood _ List.mem_cons_self) hk
  have hini' : (Cond.initialized cls).before args s' = true := vx_ot_at hW0 hvm.symm (hgood _ (List.mem_cons_of_mem _ List.mem_cons_self)) hini
  have hU' : vx_Zq Bundle.tN "UNASSIGNED_STACK" Bundle.steD A s' s'.heap := by rw [hhp]; exact vx_Zq.moved hW0.alike (hU.kept hS.2.1)
  have hN' : vx_Zq Bundle.tN "SUPPRESSED_SENTINEL" Bundle.listD A s' s'.heap := by rw [hhp]; exact vx_Zq.moved hW0.alike (hN.kept hS.2.1)
  have h : ∀ w ∈ Bundle.ownAtoms0 own ic cls names, w.before args s' = true := vx_own hat' (vx_isRefq hU'.1) (vx_isRefq hN'.1) hU'.2.word hN'.2.word
  have hown' : s'.vm.findClass own = some m.cls := by rw [hvm]; exact hown
  have hins : (Cond.instantiable cls 6).before args s' = true := h _ (by simp [Bundle.ownAtoms0])
  obtain ⟨vm₁, cX, kX, hfX, hkX, -, -, X₁, st1⟩ := Y.newCold hexec (own := own) (C := cls) (index := ik) (n := 6) hown' hk' hins hini'
    (g := F0 m pc ls rest) rfl (by rw [hb]; exact d0) (Nat.le_refl _) (Nat.le_refl _)
  generalize hT1 : (T.setVm vm₁).pushCell { cls := cX, slots := kX.instanceTypes.map defaultValue, vm := .none } = T1 at X₁ st1
  have hcat : (Value.ref T.heap.size).category = 1 := rfl
  have hcellA : T1.heap[T.heap.size]? = some (freshCell cX kX) := by rw [← hT1]; exact State.heap_pushCell_size _ _
  have d3' : decode c.code (pc + 3) = .ok (.dup, 1) := by rw [hb]; exact d3
  obtain ⟨V, ce, L, Z, hL, hlt, hcl9, hvm9, st⟩ := vx_ctorMade0 X₁ hexec htr (own := own) (cls := cls) (names := names) (ic := ic) hown' hcls hnames h (fun x hx => nomatch hx) hfX hkX hcellA (by rw [hhp]; exact Nat.le_refl _)
    (g := { method := m, pc := pc + 4, locals := ls, stack := .ref T.heap.size :: .ref T.heap.size :: rest, locked := none }) rfl hsize (rest := rest) rfl
    (by rw [hb]; exact d4) hRframes (by simp only [List.map_cons, List.sum_cons, hcat]; omega)
  have Z0 := Stand.forget (locs := []) Z (fun y hy => by rw [hL y hy, hhp]; exact Nat.le_refl _)
  obtain ⟨f1, f2⟩ := vx_frame Z0.same
  rw [hhp] at f1 f2
  have hcid : ce.cls = D.1 ci := by
    rw [hcl9]
    have h1 := (hK.1 ci _ hc).2.1
    rw [hvm] at hfX
    exact Option.some.inj (hfX.symm.trans h1)
  have hh : (V.setCell T.heap.size ce).heap[T.heap.size]? = some ce := heapAt_setCell_self (s := V) ce hlt
  subst hA'
  have X5 := vx_back9 X Y Z0
  have X6 : Stand p l e R s m args below meth c (V.setCell T.heap.size ce) locs (cells + 1) (slots + 6) := { X5 with same := X5.same.mono (by omega) (by omega) }
  have hk9 : ∀ (k : Nat) (x : Nat × va_E), ws[k]? = some x → (V.setCell T.heap.size ce).heap[x.1]? = T.heap[x.1]? := fun k x hx => f2 x.1 ((hP k x hx).lt) (fun z hz => nomatch hz)
  obtain ⟨t, a1, b1⟩ := kk T.heap.size (V.setCell T.heap.size ce).heap ((hP.kept hk9).app (fun k x hx => by
      have hz : k < 1 := (List.getElem?_eq_some_iff.mp hx).1
      rw [show k = 0 by omega] at hx
      cases hx
      exact ⟨_, hc, ce, hh, hcid, hvm9, fun k hk => absurd hk (Nat.not_lt_zero k)⟩)) (hD.push hP rfl (hA _ hS.1)) ⟨Nat.le_trans hS.1 f1, fun q h1 h2 => (f2 q (Nat.lt_of_lt_of_le h1 hS.1) (fun z hz => nomatch hz)).trans (hS.2.1 q h1 h2), hS.2.2⟩ _ rfl X6
  refine ⟨t, st1 _ ?_, b1⟩
  show Steps p.tables e below (T1.setTop { method := m, pc := pc + 3, locals := ls, stack := .ref T.heap.size :: rest, locked := none }) _
  jvm_step X₁.here [X₁.here.top, hexec, d3', Value.category]
  exact st _ a1
/-- 'throw x' of an object that was made before -/
theorem vx_athrow {cc : ByteArray} {pc : Nat} (hexec : p.tables.exec = Jvm.exec) (hb : c.code = cc) {q : Addr} (hdg : decode cc pc = .ok (.athrow, 1)) (k : vx_W p l e R s m args below meth c H locs cells slots Q (F0 m pc ls rest) q) : W p l e R s m args below meth c H locs cells slots Q (F0 m pc ls (.ref q :: rest)) := by
  intro T hT X
  obtain ⟨t, st, hq⟩ := k T hT X
  refine ⟨t, ?_, hq⟩
  have hdg' : decode c.code pc = .ok (.athrow, 1) := by rw [hb]; exact hdg
  jvm_step X.here [X.here.top, hexec, hdg', athrow.wp_sem]
  exact st
end VXK2
/-! ===== END ===== -/
/-! ===== BEGIN a constructor that throws (launches without stack traces) ===== -/
section VXIA
variable {p : Program} {l : Launch} {e : Env} {R : Room} {s : State} {m : MethodId} {args : Array Value} {below : List Frame} {meth : Method} {c : Code} {T : State} {locs : List Loc} {cells slots : Nat}
theorem vx_callI (X : Stand p l e R s m args below meth c T locs cells slots) (hexec : p.tables.exec = Jvm.exec) {own : String} {index : Nat} {y : MethodName} {bytes : ByteArray} {maxL : Nat}
    (hown : s.vm.findClass own = some m.cls) (hy1 : y.name = "<init>") (hlink : (Cond.methodLink own index y).before args s = true) (hinst : (Cond.instanceMethod y).before args s = true)
    (hcode : (Cond.code y bytes maxL none).before args s = true) (hy : y.cls ≠ "java/lang/invoke/MethodHandle" ∧ y.cls ≠ "java/lang/invoke/VarHandle")
    {W9 : Nat} {Pre : Pt → Array Value → Prop} {Post : Pt → Array Value → Option Value → Pt → Prop} {PostX : Pt → Array Value → Addr → Pt → Prop} (hK : vx_Back l R p e below s args y 3 W9 Pre Post PostX)
    {g : JFrame} (hg : g.method = m) (hsize : g.locals.size = c.maxLocals) {a : Addr} {argsL rest : List Value} (hlen : ∀ sig, parseMethodDescriptor y.desc = some sig → argsL.length = sig.parameters.length)
    (hstack : g.stack = argsL.reverse ++ .ref a :: rest) (hW : 2 * g.monitorRoom + (rest.map fun v => v.category).sum ≤ W9) (hdg : decode c.code g.pc = .ok (.invokespecial index, 3))
    (hpre : ∀ vm₁, s.WarmedH vm₁ → Pre ⟨T.setVm vm₁, locs, cells, slots⟩ (Value.ref a :: argsL).toArray) :
    (∃ (v : Option Value) (vm₁ : Vm) (B : Pt), s.WarmedH vm₁ ∧ Stand p l e R s m args below meth c B.U B.locs B.cells B.slots ∧ Post ⟨T.setVm vm₁, locs, cells, slots⟩ (Value.ref a :: argsL).toArray v B ∧
      ∀ target, Steps p.tables e below (B.U.setTop { g with pc := g.pc + 3, stack := v.toList ++ rest }) target → Steps p.tables e below (T.setTop g) target) ∨
    (∃ (q : Addr) (vm₁ : Vm) (B : Pt), s.WarmedH vm₁ ∧ Stand p l e R s m args below meth c B.U B.locs B.cells B.slots ∧ PostX ⟨T.setVm vm₁, locs, cells, slots⟩ (Value.ref a :: argsL).toArray q B ∧
      Steps p.tables e below (T.setTop g) ((B.U.setTop { g with stack := rest }).pushFrame (.throwing q))) := by
  subst hg
  have hpl : e.platform.magicAccessors = ({} : Platform).magicAccessors := by rw [X.admits.platform]
  obtain ⟨mk, methM, cM, kP, vm₁, hnamed, hmethM, hcodeM, -, hlocalsM, -, hkP, -, hW₁, hstep₁⟩ := Steps.initColdArgs (e := e) X.here hexec X.warmed hpl hown hy1 hy hlink hinst hcode (f := g) rfl hlen hstack hdg
  have X₁ := X.noted hW₁
  rcases hK g.method meth c ⟨T.setVm vm₁, locs, cells, slots⟩ { g with stack := rest } (.invokespecial index) mk (Value.ref a :: argsL).toArray X₁ rfl hsize hdg hW (X₁.named hnamed) (hpre vm₁ X₁.warmed) with ⟨v, B, X', hpost, hsteps⟩ | ⟨q, B, X', hpost, hsteps⟩
  · exact Or.inl ⟨v, vm₁, B, X₁.warmed, X', hpost, fun target h => hstep₁ _ fun acts => by rw [doInvoke_state]; exact hsteps.trans h⟩
  · exact Or.inr ⟨q, vm₁, B, X₁.warmed, X', hpost, hstep₁ _ fun acts => by rw [doInvoke_state]; exact hsteps⟩
end VXIA
section VXIB
variable {p : Program} {l : Launch} {e : Env} {R : Room} {s : State} {m : MethodId} {args : Array Value} {below : List Frame} {meth : Method} {c : Code} {H : Heap} {locs : List Loc} {cells slots : Nat}
variable {y : MethodName} {bytes cc : ByteArray} {maxL nL mc ms n index : Nat} {ret : Option FieldType} {ws : List Cond} {rm : Room} {Pc : Array Value → State → Prop} {Qc : Array Value → State → Outcome → State → Prop} {XC : String → State → State → Prop} {free : Addr → Prop} {Ts : List Cond} {own C : String} {b : Addr} {As rest : List Value} {g : JFrame}
theorem vx_runI (S : CallFix p m c cc nL s args Ts own) (hM : vx_Met l y ws rm Pc Qc XC mc ms free) (cw : CallB R s args own index y bytes maxL none ws rm mc ms n ∧ y.name = "<init>" ∧ (Cond.instanceMethod y).before args s = true) (hp : PreS s H Pc (.ref b :: As))
    (hg : g.method = m) (hn : As.length = n) (hsize : g.locals.size = nL) (hstack : g.stack = As.reverse ++ .ref b :: rest) (hW : 2 * g.monitorRoom + (rest.map fun v => v.category).sum ≤ 8) (hdg : decode cc g.pc = .ok (.invokespecial index, 3)) (hf : cells + mc ≤ R.cells ∧ slots + ms ≤ R.slots) :
    vx_Run p l e R s m args below meth c H locs cells slots mc ms g rest (Qc (Value.ref b :: As).toArray) XC free := by
  have hK : vx_Back l R p e below s args y 3 8 (PreOf R mc ms Pc) (PostOf Qc mc ms free) (vx_Post XC mc ms free) := vx_callBack cw.1 hM hp.1
  obtain ⟨⟨-, -, -, -, -, -, hcode, -, hy, hlen, hl⟩, hy1, hin⟩ := cw
  obtain ⟨hx, hb, hml, ho, -⟩ := S
  have hPc := hp.2
  intro T hT X
  rcases vx_callI X hx (bytes := bytes) (maxL := maxL) ho hy1 hl hin hcode hy hK hg (hsize.trans hml.symm) (a := b) (argsL := As) (rest := rest) (fun sig h => hn.trans (hlen sig h)) hstack hW (by rw [hb]; exact hdg)
    (fun vm₁ hW₁ => ⟨hf.1, hf.2, hPc (T.setVm vm₁) hT hW₁⟩) with ⟨v, vm₁, ⟨U', l2, c2, s2⟩, hW₁, X', ⟨g', mk, t, L, e1, e2, hq, h1, hL, h2, h3⟩, st⟩ | ⟨q, vm₁, ⟨U', l2, c2, s2⟩, hW₁, X', ⟨g', mk, t, L, E, ce, e1, e2, hq, hce, hcv, hcl, h1, hL, h2, h3⟩, st⟩
  · dsimp only [Pt.U, Pt.locs, Pt.cells, Pt.slots] at X' e1 e2 h1 h2 h3 st
    subst h1; subst h2; subst h3
    exact Or.inl ⟨v, (T.setVm vm₁).calling g' mk (Value.ref b :: As).toArray, t, U', L, hT, X', hL, e1, e2, hq, st⟩
  · dsimp only [Pt.U, Pt.locs, Pt.cells, Pt.slots] at X' e1 e2 h1 h2 h3 st hcl
    subst h1; subst h2; subst h3
    exact Or.inr ⟨q, (T.setVm vm₁).calling g' mk (Value.ref b :: As).toArray, t, U', L, E, ce, hT, X', hL, e1, e2, hq, hce, hcv, vx_cls hW₁ hcl, st⟩
end VXIB
/-! ===== END ===== -/
/-! ===== BEGIN a private constructor of a nest mate that throws ===== -/
section VXIC
variable {p : Program} {l : Launch} {e : Env} {R : Room} {s : State} {m : MethodId} {args : Array Value} {below : List Frame} {meth : Method} {c : Code} {T : State} {locs : List Loc} {cells slots : Nat}
theorem vx_callIN (X : Stand p l e R s m args below meth c T locs cells slots) (hexec : p.tables.exec = Jvm.exec) {own : String} {index : Nat} {host : String} {y : MethodName} {bytes : ByteArray} {maxL : Nat}
    (hown : s.vm.findClass own = some m.cls) (hy1 : y.name = "<init>") (hlink : (Cond.methodLinkNest own index y host).before args s = true) (hinst : (Cond.instanceMethod y).before args s = true)
    (hcode : (Cond.code y bytes maxL none).before args s = true) (hy : y.cls ≠ "java/lang/invoke/MethodHandle" ∧ y.cls ≠ "java/lang/invoke/VarHandle")
    {W9 : Nat} {Pre : Pt → Array Value → Prop} {Post : Pt → Array Value → Option Value → Pt → Prop} {PostX : Pt → Array Value → Addr → Pt → Prop} (hK : vx_Back l R p e below s args y 3 W9 Pre Post PostX)
    {g : JFrame} (hg : g.method = m) (hsize : g.locals.size = c.maxLocals) {a : Addr} {argsL rest : List Value} (hlen : ∀ sig, parseMethodDescriptor y.desc = some sig → argsL.length = sig.parameters.length)
    (hstack : g.stack = argsL.reverse ++ .ref a :: rest) (hW : 2 * g.monitorRoom + (rest.map fun v => v.category).sum ≤ W9) (hdg : decode c.code g.pc = .ok (.invokespecial index, 3))
    (hpre : ∀ vm₁, s.WarmedH vm₁ → Pre ⟨T.setVm vm₁, locs, cells, slots⟩ (Value.ref a :: argsL).toArray) :
    (∃ (v : Option Value) (vm₁ : Vm) (B : Pt), s.WarmedH vm₁ ∧ Stand p l e R s m args below meth c B.U B.locs B.cells B.slots ∧ Post ⟨T.setVm vm₁, locs, cells, slots⟩ (Value.ref a :: argsL).toArray v B ∧
      ∀ target, Steps p.tables e below (B.U.setTop { g with pc := g.pc + 3, stack := v.toList ++ rest }) target → Steps p.tables e below (T.setTop g) target) ∨
    (∃ (q : Addr) (vm₁ : Vm) (B : Pt), s.WarmedH vm₁ ∧ Stand p l e R s m args below meth c B.U B.locs B.cells B.slots ∧ PostX ⟨T.setVm vm₁, locs, cells, slots⟩ (Value.ref a :: argsL).toArray q B ∧
      Steps p.tables e below (T.setTop g) ((B.U.setTop { g with stack := rest }).pushFrame (.throwing q))) := by
  subst hg
  have hpl : e.platform.magicAccessors = ({} : Platform).magicAccessors := by rw [X.admits.platform]
  obtain ⟨mk, methM, cM, kP, vm₁, hnamed, hmethM, hcodeM, -, hlocalsM, -, hkP, -, hW₁, hstep₁⟩ := Steps.initColdArgsNest (e := e) X.here hexec X.warmed hpl hown hy1 hy hlink hinst hcode (f := g) rfl hlen hstack hdg
  have X₁ := X.noted hW₁
  rcases hK g.method meth c ⟨T.setVm vm₁, locs, cells, slots⟩ { g with stack := rest } (.invokespecial index) mk (Value.ref a :: argsL).toArray X₁ rfl hsize hdg hW (X₁.named hnamed) (hpre vm₁ X₁.warmed) with ⟨v, B, X', hpost, hsteps⟩ | ⟨q, B, X', hpost, hsteps⟩
  · exact Or.inl ⟨v, vm₁, B, X₁.warmed, X', hpost, fun target h => hstep₁ _ fun acts => by rw [doInvoke_state]; exact hsteps.trans h⟩
  · exact Or.inr ⟨q, vm₁, B, X₁.warmed, X', hpost, hstep₁ _ fun acts => by rw [doInvoke_state]; exact hsteps⟩
end VXIC
section VXID
variable {p : Program} {l : Launch} {e : Env} {R : Room} {s : State} {m : MethodId} {args : Array Value} {below : List Frame} {meth : Method} {c : Code} {H : Heap} {locs : List Loc} {cells slots : Nat}
theorem vx_runIN {y : MethodName} {bytes cc : ByteArray} {maxL nL mc ms n index : Nat} {ws : List Cond} {rm : Room} {Pc : Array Value → State → Prop} {Qc : Array Value → State → Outcome → State → Prop} {XC : String → State → State → Prop} {free : Addr → Prop} {Ts : List Cond} {own host : String} {b : Addr} {As rest : List Value} {g : JFrame}
    (S : CallFix p m c cc nL s args Ts own) (hM : vx_Met l y ws rm Pc Qc XC mc ms free) (cw : va_CN R s args own index y host bytes maxL none ws rm mc ms n ∧ y.name = "<init>" ∧ (Cond.instanceMethod y).before args s = true) (hp : PreS s H Pc (.ref b :: As))
    (hg : g.method = m) (hn : As.length = n) (hsize : g.locals.size = nL) (hstack : g.stack = As.reverse ++ .ref b :: rest) (hW : 2 * g.monitorRoom + (rest.map fun v => v.category).sum ≤ 8) (hdg : decode cc g.pc = .ok (.invokespecial index, 3)) (hf : cells + mc ≤ R.cells ∧ slots + ms ≤ R.slots) :
    vx_Run p l e R s m args below meth c H locs cells slots mc ms g rest (Qc (Value.ref b :: As).toArray) XC free := by
  obtain ⟨⟨⟨hrc, hrs, hfr, hlo, hws, hcw⟩, hcode, hini, hy, hlen, hl⟩, hx1, hx2⟩ := cw
  have hK : vx_Back l R p e below s args y 3 8 (PreOf R mc ms Pc) (PostOf Qc mc ms free) (vx_Post XC mc ms free) := vx_back (bytes := bytes) (maxL := maxL) (ret := none) hM hp.1 hrc hrs hfr hlo hws hcw (fun a' U hW => word_at hW (Or.inl (by first | rfl | simp [Cond.onTables, Cond.keeps, Cond.steady])) hini)
  obtain ⟨hx, hb, hml, ho, -⟩ := S
  have hPc := hp.2
  intro T hT X
  rcases vx_callIN X hx (bytes := bytes) (maxL := maxL) ho hx1 hl hx2 hcode hy hK hg (hsize.trans hml.symm) (a := b) (argsL := As) (rest := rest) (fun sig h => hn.trans (hlen sig h)) hstack hW (by rw [hb]; exact hdg)
    (fun vm₁ hW₁ => ⟨hf.1, hf.2, hPc (T.setVm vm₁) hT hW₁⟩) with ⟨v, vm₁, ⟨U', l2, c2, s2⟩, hW₁, X', ⟨g', mk, t, L, e1, e2, hq, h1, hL, h2, h3⟩, st⟩ | ⟨q, vm₁, ⟨U', l2, c2, s2⟩, hW₁, X', ⟨g', mk, t, L, E, ce, e1, e2, hq, hce, hcv, hcl, h1, hL, h2, h3⟩, st⟩
  · dsimp only [Pt.U, Pt.locs, Pt.cells, Pt.slots] at X' e1 e2 h1 h2 h3 st
    subst h1; subst h2; subst h3
    exact Or.inl ⟨v, (T.setVm vm₁).calling g' mk (Value.ref b :: As).toArray, t, U', L, hT, X', hL, e1, e2, hq, st⟩
  · dsimp only [Pt.U, Pt.locs, Pt.cells, Pt.slots] at X' e1 e2 h1 h2 h3 st hcl
    subst h1; subst h2; subst h3
    exact Or.inr ⟨q, (T.setVm vm₁).calling g' mk (Value.ref b :: As).toArray, t, U', L, E, ce, hT, X', hL, e1, e2, hq, hce, hcv, vx_cls hW₁ hcl, st⟩
end VXID
/-! ===== END ===== -/
/-! ===== BEGIN a method of a class above, found by the receiver, that may throw (follows va_callVU, va_runU of this kit) ===== -/
section
variable {p : Program} {l : Launch} {e : Env} {R : Room} {s : State} {m : MethodId} {args : Array Value} {below : List Frame} {meth : Method} {c : Code} {H : Heap} {locs : List Loc} {cells slots : Nat}
theorem vx_callVU {T : State} {locs : List Loc} {cells slots : Nat} (X : Stand p l e R s m args below meth c T locs cells slots) (hexec : p.tables.exec = Jvm.exec) {own C owner : String} {index : Nat} {x y : MethodName} {bytes : ByteArray} {maxL : Nat} {ret : Option FieldType}
    (hown : s.vm.findClass own = some m.cls) (hlink : (Cond.methodLink own index x).before args s = true) (hsame : (Cond.sameMethod x.cls owner x.name x.desc).before args s = true)
    (hd0 : va_Decl s ⟨owner, x.name, x.desc⟩) (howner : owner ≠ "java/lang/invoke/MethodHandle" ∧ owner ≠ "java/lang/invoke/VarHandle")
    (hsel : (Cond.selects C x y).before args s = true) (hinst : (Cond.instanceMethod y).before args s = true) (hcode : (Cond.code y bytes maxL ret).before args s = true)
    {W : Nat} {Pre : Pt → Array Value → Prop} {Post : Pt → Array Value → Option Value → Pt → Prop} {PostX : Pt → Array Value → Addr → Pt → Prop} (hK : vx_Back l R p e below s args y 3 W Pre Post PostX)
    {b : Addr} {cellB : Cell} (hcell : T.heap[b]? = some cellB) (hobj : cellB.vm.isStatics = false) (hcls : s.vm.findClass C = some cellB.cls)
    {g : JFrame} (hg : g.method = m) (hsize : g.locals.size = c.maxLocals) {argsL rest : List Value} (hlen : ∀ sig, parseMethodDescriptor x.desc = some sig → argsL.length = sig.parameters.length)
    (hstack : g.stack = argsL.reverse ++ .ref b :: rest) (hW : 2 * g.monitorRoom + (rest.map fun v => v.category).sum ≤ W) (hdg : decode c.code g.pc = .ok (.invokevirtual index, 3))
    (hpre : ∀ vm₁, s.WarmedH vm₁ → Pre ⟨T.setVm vm₁, locs, cells, slots⟩ (Value.ref b :: argsL).toArray) :
    (∃ (v : Option Value) (vm₁ : Vm) (B : Pt), s.WarmedH vm₁ ∧ Stand p l e R s m args below meth c B.U B.locs B.cells B.slots ∧ Post ⟨T.setVm vm₁, locs, cells, slots⟩ (Value.ref b :: argsL).toArray v B ∧
      ∀ target, Steps p.tables e below (B.U.setTop { g with pc := g.pc + 3, stack := v.toList ++ rest }) target → Steps p.tables e below (T.setTop g) target) ∨
    (∃ (q : Addr) (vm₁ : Vm) (B : Pt), s.WarmedH vm₁ ∧ Stand p l e R s m args below meth c B.U B.locs B.cells B.slots ∧ PostX ⟨T.setVm vm₁, locs, cells, slots⟩ (Value.ref b :: argsL).toArray q B ∧
      Steps p.tables e below (T.setTop g) ((B.U.setTop { g with stack := rest }).pushFrame (.throwing q))) := by
  obtain ⟨r0, r, hn, hrm, hstR, hsigR⟩ := hd0
  obtain ⟨cn, ck, r1, hcn, hck, hni, hf, hn1⟩ := Cond.sameMethod_found hsame
  cases hn.symm.trans hn1
  obtain ⟨mk, methM, hnamed, hmethM, -, habM⟩ := Cond.instanceMethod_spec hinst
  obtain ⟨c2, r2, m2, q1, q2, q3, q4, kP, hkP, hkPi⟩ := Cond.selects_spec hsel
  cases hcls.symm.trans q1
  cases hf.symm.trans q2
  cases hnamed.symm.trans q3
  have hselP : selectMethod e.platform s.vm cellB.cls r0 = .method mk := by rw [Launch.admits_selectMethod X.admits]; exact q4
  obtain ⟨vm₁, X₁, hstep₁⟩ := X.invokevirtualUp hexec hown hlink hsame howner hn hrm hstR (a := b) (cell := cellB) hcell
    (fun z h => by rw [h] at hobj; cases hobj) hselP hmethM habM hkP hkPi (g := g) hg (argsL := argsL) (rest := rest) (hlen _ hsigR) hstack hdg
  rcases hK m meth c ⟨T.setVm vm₁, locs, cells, slots⟩ { g with stack := rest } (.invokevirtual index) mk (Value.ref b :: argsL).toArray X₁ hg hsize hdg hW (X₁.named hnamed) (hpre vm₁ X₁.warmed) with ⟨v, B, X', hpost, hsteps⟩ | ⟨q, B, X', hpost, hsteps⟩
  · exact Or.inl ⟨v, vm₁, B, X₁.warmed, X', hpost, fun target h => hstep₁ _ fun acts => by rw [doInvoke_state]; exact hsteps.trans h⟩
  · exact Or.inr ⟨q, vm₁, B, X₁.warmed, X', hpost, hstep₁ _ fun acts => by rw [doInvoke_state]; exact hsteps⟩
theorem vx_runU {x y : MethodName} {bytes cc : ByteArray} {maxL nL mc ms n index : Nat} {ret : Option FieldType} {ws : List Cond} {rm : Room} {Pc : Array Value → State → Prop} {Qc : Array Value → State → Outcome → State → Prop} {XC : String → State → State → Prop} {free : Addr → Prop} {Ts : List Cond} {own C owner : String} {b : Addr} {As rest : List Value} {g : JFrame}
    (S : CallFix p m c cc nL s args Ts own) (hM : vx_Met l y ws rm Pc Qc XC mc ms free) (cw : va_CU R s args own C owner index x y bytes maxL ret ws rm mc ms n) (hp : PreV s H C b Pc As)
    (hg : g.method = m) (hn : As.length = n) (hsize : g.locals.size = nL) (hstack : g.stack = As.reverse ++ .ref b :: rest) (hW : 2 * g.monitorRoom + (rest.map fun v => v.category).sum ≤ 8) (hdg : decode cc g.pc = .ok (.invokevirtual index, 3)) (hf : cells + mc ≤ R.cells ∧ slots + ms ≤ R.slots) :
    vx_Run p l e R s m args below meth c H locs cells slots mc ms g rest (Qc (Value.ref b :: As).toArray) XC free := by
  obtain ⟨hrc, hrs, hfr, hlo, hws, hcw⟩ := cw.back
  have hini := cw.init
  have hK : vx_Back l R p e below s args y 3 8 (PreOf R mc ms Pc) (PostOf Qc mc ms free) (vx_Post XC mc ms free) := vx_back (bytes := bytes) (maxL := maxL) (ret := ret) hM hp.1 hrc hrs hfr hlo hws hcw (fun a' U hW => word_at hW (Or.inl (by first | rfl | simp [Cond.onTables, Cond.keeps, Cond.steady])) hini)
  obtain ⟨hx, hb, hml, ho, -⟩ := S
  obtain ⟨-, ⟨cellB, hcB, hoB, hclB⟩, hPc⟩ := hp
  intro T hT X
  rcases vx_callVU X hx (C := C) (owner := owner) (bytes := bytes) (maxL := maxL) (ret := ret) ho cw.link cw.same cw.decl cw.notMH cw.sel cw.inst cw.code hK (by rw [hT]; exact hcB) hoB hclB hg (hsize.trans hml.symm) (argsL := As) (rest := rest) (fun sig h => hn.trans (cw.len sig h)) hstack hW (by rw [hb]; exact hdg)
    (fun vm₁ hW₁ => ⟨hf.1, hf.2, hPc (T.setVm vm₁) hT hW₁⟩) with ⟨v, vm₁, ⟨U', l2, c2, s2⟩, hW₁, X', ⟨g', mk, t, L, e1, e2, hq, h1, hL, h2, h3⟩, st⟩ | ⟨q, vm₁, ⟨U', l2, c2, s2⟩, hW₁, X', ⟨g', mk, t, L, E, ce, e1, e2, hq, hce, hcv, hcl, h1, hL, h2, h3⟩, st⟩
  · dsimp only [Pt.U, Pt.locs, Pt.cells, Pt.slots] at X' e1 e2 h1 h2 h3 st
    subst h1; subst h2; subst h3
    exact Or.inl ⟨v, (T.setVm vm₁).calling g' mk (Value.ref b :: As).toArray, t, U', L, hT, X', hL, e1, e2, hq, st⟩
  · dsimp only [Pt.U, Pt.locs, Pt.cells, Pt.slots] at X' e1 e2 h1 h2 h3 st hcl
    subst h1; subst h2; subst h3
    exact Or.inr ⟨q, (T.setVm vm₁).calling g' mk (Value.ref b :: As).toArray, t, U', L, E, ce, hT, X', hL, e1, e2, hq, hce, hcv, vx_cls hW₁ hcl, st⟩
end
/-! ===== END ===== -/
/-! ===== BEGIN super.m(..) that may throw (follows va_callSU, va_runSU) ===== -/
section
variable {p : Program} {l : Launch} {e : Env} {R : Room} {s : State} {m : MethodId} {args : Array Value} {below : List Frame} {meth : Method} {c : Code} {H : Heap} {locs : List Loc} {cells slots : Nat}
theorem vx_callSU {T : State} {locs : List Loc} {cells slots : Nat} (X : Stand p l e R s m args below meth c T locs cells slots) (hexec : p.tables.exec = Jvm.exec) {own : String} {index : Nat} {y : MethodName} {bytes : ByteArray} {maxL : Nat} {ret : Option FieldType}
    (hown : s.vm.findClass own = some m.cls) (hlink : (Cond.methodLink own index y).before args s = true) (hsame : (Cond.sameMethod y.cls y.cls y.name y.desc).before args s = true) (hsup : (Cond.superclass own y.cls).before args s = true)
    (hinst : (Cond.instanceMethod y).before args s = true) (hcode : (Cond.code y bytes maxL ret).before args s = true) (hno : y.name ≠ "<init>")
    {W : Nat} {Pre : Pt → Array Value → Prop} {Post : Pt → Array Value → Option Value → Pt → Prop} {PostX : Pt → Array Value → Addr → Pt → Prop} (hK : vx_Back l R p e below s args y 3 W Pre Post PostX)
    {b : Addr} {cellB : Cell} {kB : Class} (hcell : T.heap[b]? = some cellB) (hobj : cellB.vm.isStatics = false) (hkB : s.vm.classes[cellB.cls]? = some kB)
    {g : JFrame} (hg : g.method = m) (hsize : g.locals.size = c.maxLocals) {argsL rest : List Value} (hlen : ∀ sig, parseMethodDescriptor y.desc = some sig → argsL.length = sig.parameters.length)
    (hstack : g.stack = argsL.reverse ++ .ref b :: rest) (hW : 2 * g.monitorRoom + (rest.map fun v => v.category).sum ≤ W) (hdg : decode c.code g.pc = .ok (.invokespecial index, 3))
    (hpre : ∀ vm₁, s.WarmedH vm₁ → Pre ⟨T.setVm vm₁, locs, cells, slots⟩ (Value.ref b :: argsL).toArray) :
    (∃ (v : Option Value) (vm₁ : Vm) (B : Pt), s.WarmedH vm₁ ∧ Stand p l e R s m args below meth c B.U B.locs B.cells B.slots ∧ Post ⟨T.setVm vm₁, locs, cells, slots⟩ (Value.ref b :: argsL).toArray v B ∧
      ∀ target, Steps p.tables e below (B.U.setTop { g with pc := g.pc + 3, stack := v.toList ++ rest }) target → Steps p.tables e below (T.setTop g) target) ∨
    (∃ (q : Addr) (vm₁ : Vm) (B : Pt), s.WarmedH vm₁ ∧ Stand p l e R s m args below meth c B.U B.locs B.cells B.slots ∧ PostX ⟨T.setVm vm₁, locs, cells, slots⟩ (Value.ref b :: argsL).toArray q B ∧
      Steps p.tables e below (T.setTop g) ((B.U.setTop { g with stack := rest }).pushFrame (.throwing q))) := by
  obtain ⟨mk, methM, hnamed, hmethM, hstM, habM⟩ := Cond.instanceMethod_spec hinst
  obtain ⟨methM', cM, hmethM', -, -, -, -, -, -, hsigM⟩ := Cond.code_spec hnamed hcode
  cases hmethM.symm.trans hmethM'
  obtain ⟨ps, dk, kp, hps, hdk, hkp, hsuper, -, -, hnid⟩ := Cond.superclass_spec hown hsup
  have hn : s.methodNamed? ⟨y.cls, y.name, y.desc⟩ = some mk := hnamed
  have hpm : ps = mk.cls := Option.some.inj (hps.symm.trans (findClass_of_methodNamed hnamed))
  have hsub : s.vm.isSubclass ps mk.cls = true := by rw [hpm]; simp [Vm.isSubclass, Vm.isSubclassAux]
  obtain ⟨vm₁, X₁, hstep₁⟩ := X.invokespecialUp hexec hown hlink hsame hn hmethM hstM habM hno hdk hnid hps hsuper hsub (a := b) (cell := cellB) hcell
    (fun z h => by rw [h] at hobj; cases hobj) hkB (g := g) hg (argsL := argsL) (rest := rest) (hlen _ hsigM) hstack hdg
  rcases hK m meth c ⟨T.setVm vm₁, locs, cells, slots⟩ { g with stack := rest } (.invokespecial index) mk (Value.ref b :: argsL).toArray X₁ hg hsize hdg hW (X₁.named hnamed) (hpre vm₁ X₁.warmed) with ⟨v, B, X', hpost, hsteps⟩ | ⟨q, B, X', hpost, hsteps⟩
  · exact Or.inl ⟨v, vm₁, B, X₁.warmed, X', hpost, fun target h => hstep₁ _ (by rw [doInvoke_state]; exact hsteps.trans h)⟩
  · exact Or.inr ⟨q, vm₁, B, X₁.warmed, X', hpost, hstep₁ _ (by rw [doInvoke_state]; exact hsteps)⟩
theorem vx_runSU {y : MethodName} {bytes cc : ByteArray} {maxL nL mc ms n index : Nat} {ret : Option FieldType} {ws : List Cond} {rm : Room} {Pc : Array Value → State → Prop} {Qc : Array Value → State → Outcome → State → Prop} {XC : String → State → State → Prop} {free : Addr → Prop} {Ts : List Cond} {own C : String} {cC : ClassId} {b : Addr} {As rest : List Value} {g : JFrame}
    (hat : ClassAt s C cC) (S : CallFix p m c cc nL s args Ts own) (hM : vx_Met l y ws rm Pc Qc XC mc ms free) (cw : va_CS R s args own index y bytes maxL ret ws rm mc ms n) (hp : PreV s H C b Pc As)
    (hg : g.method = m) (hn : As.length = n) (hsize : g.locals.size = nL) (hstack : g.stack = As.reverse ++ .ref b :: rest) (hW : 2 * g.monitorRoom + (rest.map fun v => v.category).sum ≤ 8) (hdg : decode cc g.pc = .ok (.invokespecial index, 3)) (hf : cells + mc ≤ R.cells ∧ slots + ms ≤ R.slots) :
    vx_Run p l e R s m args below meth c H locs cells slots mc ms g rest (Qc (Value.ref b :: As).toArray) XC free := by
  obtain ⟨⟨hrc, hrs, hfr, hlo, hws, hcw⟩, hl1, hl2, hl3, hl4, hini, hcode, hno, hlen⟩ := cw
  have hK : vx_Back l R p e below s args y 3 8 (PreOf R mc ms Pc) (PostOf Qc mc ms free) (vx_Post XC mc ms free) := vx_back (bytes := bytes) (maxL := maxL) (ret := ret) hM hp.1 hrc hrs hfr hlo hws hcw (fun a' U hW => word_at hW (Or.inl (by first | rfl | simp [Cond.onTables, Cond.keeps, Cond.steady])) hini)
  obtain ⟨hx, hb, hml, ho, -⟩ := S
  obtain ⟨-, ⟨cellB, hcB, hoB, hclB⟩, hPc⟩ := hp
  obtain ⟨hfc, kB, hkB, -⟩ := hat
  cases hfc.symm.trans hclB
  intro T hT X
  rcases vx_callSU X hx (bytes := bytes) (maxL := maxL) (ret := ret) ho hl1 hl2 hl3 hl4 hcode hno hK (by rw [hT]; exact hcB) hoB hkB hg (hsize.trans hml.symm) (argsL := As) (rest := rest) (fun sig h => hn.trans (hlen sig h)) hstack hW (by rw [hb]; exact hdg)
    (fun vm₁ hW₁ => ⟨hf.1, hf.2, hPc (T.setVm vm₁) hT hW₁⟩) with ⟨v, vm₁, ⟨U', l2, c2, s2⟩, hW₁, X', ⟨g', mk, t, L, e1, e2, hq, h1, hL, h2, h3⟩, st⟩ | ⟨q, vm₁, ⟨U', l2, c2, s2⟩, hW₁, X', ⟨g', mk, t, L, E, ce, e1, e2, hq, hce, hcv, hcl, h1, hL, h2, h3⟩, st⟩
  · dsimp only [Pt.U, Pt.locs, Pt.cells, Pt.slots] at X' e1 e2 h1 h2 h3 st
    subst h1; subst h2; subst h3
    exact Or.inl ⟨v, (T.setVm vm₁).calling g' mk (Value.ref b :: As).toArray, t, U', L, hT, X', hL, e1, e2, hq, st⟩
  · dsimp only [Pt.U, Pt.locs, Pt.cells, Pt.slots] at X' e1 e2 h1 h2 h3 st hcl
    subst h1; subst h2; subst h3
    exact Or.inr ⟨q, (T.setVm vm₁).calling g' mk (Value.ref b :: As).toArray, t, U', L, E, ce, hT, X', hL, e1, e2, hq, hce, hcv, vx_cls hW₁ hcl, st⟩
end
/-! ===== END ===== -/
/-! ===== BEGIN a private method of a nest mate that may throw (follows va_callVN, va_callSN, va_runVN, va_runSN) ===== -/
section
variable {p : Program} {l : Launch} {e : Env} {R : Room} {s : State} {m : MethodId} {args : Array Value} {below : List Frame} {meth : Method} {c : Code} {H : Heap} {locs : List Loc} {cells slots : Nat}
variable {T : State}
theorem vx_callVN (X : Stand p l e R s m args below meth c T locs cells slots) (hexec : p.tables.exec = Jvm.exec) {own C : String} {index : Nat} {host : String} {y : MethodName} {bytes : ByteArray} {maxL : Nat} {ret : Option FieldType}
    (hown : s.vm.findClass own = some m.cls) (hlink : (Cond.methodLinkNest own index y host).before args s = true) (hinst : (Cond.instanceMethod y).before args s = true) (hsel : (Cond.selects C y y).before args s = true)
    (hcode : (Cond.code y bytes maxL ret).before args s = true) (hy : y.cls ≠ "java/lang/invoke/MethodHandle" ∧ y.cls ≠ "java/lang/invoke/VarHandle")
    {W : Nat} {Pre : Pt → Array Value → Prop} {Post : Pt → Array Value → Option Value → Pt → Prop} {PostX : Pt → Array Value → Addr → Pt → Prop} (hK : vx_Back l R p e below s args y 3 W Pre Post PostX)
    {b : Addr} {cellB : Cell} (hcell : T.heap[b]? = some cellB) (hobj : cellB.vm.isStatics = false) (hcls : s.vm.findClass C = some cellB.cls)
    {g : JFrame} (hg : g.method = m) (hsize : g.locals.size = c.maxLocals) {argsL rest : List Value} (hlen : ∀ sig, parseMethodDescriptor y.desc = some sig → argsL.length = sig.parameters.length)
    (hstack : g.stack = argsL.reverse ++ .ref b :: rest) (hW : 2 * g.monitorRoom + (rest.map fun v => v.category).sum ≤ W) (hdg : decode c.code g.pc = .ok (.invokevirtual index, 3))
    (hpre : ∀ vm₁, s.WarmedH vm₁ → Pre ⟨T.setVm vm₁, locs, cells, slots⟩ (Value.ref b :: argsL).toArray) :
    (∃ (v : Option Value) (vm₁ : Vm) (B : Pt), s.WarmedH vm₁ ∧ Stand p l e R s m args below meth c B.U B.locs B.cells B.slots ∧ Post ⟨T.setVm vm₁, locs, cells, slots⟩ (Value.ref b :: argsL).toArray v B ∧
      ∀ target, Steps p.tables e below (B.U.setTop { g with pc := g.pc + 3, stack := v.toList ++ rest }) target → Steps p.tables e below (T.setTop g) target) ∨
    (∃ (q : Addr) (vm₁ : Vm) (B : Pt), s.WarmedH vm₁ ∧ Stand p l e R s m args below meth c B.U B.locs B.cells B.slots ∧ PostX ⟨T.setVm vm₁, locs, cells, slots⟩ (Value.ref b :: argsL).toArray q B ∧
      Steps p.tables e below (T.setTop g) ((B.U.setTop { g with stack := rest }).pushFrame (.throwing q))) := by
  obtain ⟨mk, methM, hnamed, hmethM, hstM, habM⟩ := Cond.instanceMethod_spec hinst
  obtain ⟨methM', cM, hmethM', -, -, -, -, -, -, hsigM⟩ := Cond.code_spec hnamed hcode
  cases hmethM.symm.trans hmethM'
  obtain ⟨c2, r2, m2, q1, q2, q3, q4, kP, hkP, hkPi⟩ := Cond.selects_spec hsel
  cases hcls.symm.trans q1
  cases (State.methodFound?_of_named hnamed hy).symm.trans q2
  cases hnamed.symm.trans q3
  have hselP : selectMethod e.platform s.vm cellB.cls mk = .method mk := by rw [Launch.admits_selectMethod X.admits]; exact q4
  obtain ⟨vm₁, X₁, hstep₁⟩ := X.invokevirtualNest hexec hown hlink hnamed hmethM hstM hkP hkPi hy (a := b) (cell := cellB) hcell
    (fun z h => by rw [h] at hobj; cases hobj) hselP hmethM habM hkP hkPi (g := g) hg (argsL := argsL) (rest := rest) (hlen _ hsigM) hstack hdg
  rcases hK m meth c ⟨T.setVm vm₁, locs, cells, slots⟩ { g with stack := rest } (.invokevirtual index) mk (Value.ref b :: argsL).toArray X₁ hg hsize hdg hW (X₁.named hnamed) (hpre vm₁ X₁.warmed) with ⟨v, B, X', hpost, hsteps⟩ | ⟨q, B, X', hpost, hsteps⟩
  · exact Or.inl ⟨v, vm₁, B, X₁.warmed, X', hpost, fun target h => hstep₁ _ fun acts => by rw [doInvoke_state]; exact hsteps.trans h⟩
  · exact Or.inr ⟨q, vm₁, B, X₁.warmed, X', hpost, hstep₁ _ fun acts => by rw [doInvoke_state]; exact hsteps⟩
theorem vx_callSN (X : Stand p l e R s m args below meth c T locs cells slots) (hexec : p.tables.exec = Jvm.exec) {own : String} {index : Nat} {host : String} {y : MethodName} {bytes : ByteArray} {maxL : Nat} {ret : Option FieldType}
    (hown : s.vm.findClass own = some m.cls) (hlink : (Cond.methodLinkNest own index y host).before args s = true) (hstat : (Cond.static y).before args s = true) (hinit : (Cond.initialized y.cls).before args s = true)
    (hcode : (Cond.code y bytes maxL ret).before args s = true) (hy : y.cls ≠ "java/lang/invoke/MethodHandle" ∧ y.cls ≠ "java/lang/invoke/VarHandle")
    {W : Nat} {Pre : Pt → Array Value → Prop} {Post : Pt → Array Value → Option Value → Pt → Prop} {PostX : Pt → Array Value → Addr → Pt → Prop} (hK : vx_Back l R p e below s args y 3 W Pre Post PostX)
    {g : JFrame} (hg : g.method = m) (hsize : g.locals.size = c.maxLocals) {argsL rest : List Value} (hlen : ∀ sig, parseMethodDescriptor y.desc = some sig → argsL.length = sig.parameters.length)
    (hstack : g.stack = argsL.reverse ++ rest) (hW : 2 * g.monitorRoom + (rest.map fun v => v.category).sum ≤ W) (hdg : decode c.code g.pc = .ok (.invokestatic index, 3))
    (hpre : ∀ vm₁, s.WarmedH vm₁ → Pre ⟨T.setVm vm₁, locs, cells, slots⟩ argsL.toArray) :
    (∃ (v : Option Value) (vm₁ : Vm) (B : Pt), s.WarmedH vm₁ ∧ Stand p l e R s m args below meth c B.U B.locs B.cells B.slots ∧ Post ⟨T.setVm vm₁, locs, cells, slots⟩ argsL.toArray v B ∧
      ∀ target, Steps p.tables e below (B.U.setTop { g with pc := g.pc + 3, stack := v.toList ++ rest }) target → Steps p.tables e below (T.setTop g) target) ∨
    (∃ (q : Addr) (vm₁ : Vm) (B : Pt), s.WarmedH vm₁ ∧ Stand p l e R s m args below meth c B.U B.locs B.cells B.slots ∧ PostX ⟨T.setVm vm₁, locs, cells, slots⟩ argsL.toArray q B ∧
      Steps p.tables e below (T.setTop g) ((B.U.setTop { g with stack := rest }).pushFrame (.throwing q))) := by
  obtain ⟨mk, hnamed⟩ := Cond.code_named hcode
  obtain ⟨methM, cM, hmethM, -, -, -, -, -, -, hsigM⟩ := Cond.code_spec hnamed hcode
  have hstatic : methM.isStatic = true := Cond.static_spec hnamed hmethM hstat
  obtain ⟨kP, hkP, -⟩ := className_of_methodNamed hnamed
  have hinitP : kP.init = .initialized := Cond.initialized_spec (findClass_of_methodNamed hnamed) hkP hinit
  obtain ⟨vm₁, X₁, hstep₁⟩ := X.invokestaticNest hexec hown hlink hnamed hmethM hstatic hkP hinitP hy (g := g) hg (argsL := argsL) (rest := rest) (hlen _ hsigM) hstack hdg
  rcases hK m meth c ⟨T.setVm vm₁, locs, cells, slots⟩ { g with stack := rest } (.invokestatic index) mk argsL.toArray X₁ hg hsize hdg hW (X₁.named hnamed) (hpre vm₁ X₁.warmed) with ⟨v, B, X', hpost, hsteps⟩ | ⟨q, B, X', hpost, hsteps⟩
  · exact Or.inl ⟨v, vm₁, B, X₁.warmed, X', hpost, fun target h => hstep₁ _ fun acts => by rw [doInvoke_state]; exact hsteps.trans h⟩
  · exact Or.inr ⟨q, vm₁, B, X₁.warmed, X', hpost, hstep₁ _ fun acts => by rw [doInvoke_state]; exact hsteps⟩
theorem vx_runVN {y : MethodName} {bytes cc : ByteArray} {maxL nL mc ms n index : Nat} {ret : Option FieldType} {ws : List Cond} {rm : Room} {Pc : Array Value → State → Prop} {Qc : Array Value → State → Outcome → State → Prop} {XC : String → State → State → Prop} {free : Addr → Prop} {Ts : List Cond} {own C host : String} {b : Addr} {As rest : List Value} {g : JFrame}
    (S : CallFix p m c cc nL s args Ts own) (hM : vx_Met l y ws rm Pc Qc XC mc ms free) (cw : va_CN R s args own index y host bytes maxL ret ws rm mc ms n ∧ (Cond.instanceMethod y).before args s = true ∧ (Cond.selects C y y).before args s = true) (hp : PreV s H C b Pc As)
    (hg : g.method = m) (hn : As.length = n) (hsize : g.locals.size = nL) (hstack : g.stack = As.reverse ++ .ref b :: rest) (hW : 2 * g.monitorRoom + (rest.map fun v => v.category).sum ≤ 8) (hdg : decode cc g.pc = .ok (.invokevirtual index, 3)) (hf : cells + mc ≤ R.cells ∧ slots + ms ≤ R.slots) :
    vx_Run p l e R s m args below meth c H locs cells slots mc ms g rest (Qc (Value.ref b :: As).toArray) XC free := by
  obtain ⟨⟨⟨hrc, hrs, hfr, hlo, hws, hcw⟩, hcode, hini, hy, hlen, hl⟩, hx1, hx2⟩ := cw
  have hK : vx_Back l R p e below s args y 3 8 (PreOf R mc ms Pc) (PostOf Qc mc ms free) (vx_Post XC mc ms free) := vx_back (bytes := bytes) (maxL := maxL) (ret := ret) hM hp.1 hrc hrs hfr hlo hws hcw (fun a' U hW => word_at hW (Or.inl (by first | rfl | simp [Cond.onTables, Cond.keeps, Cond.steady])) hini)
  obtain ⟨hx, hb, hml, ho, -⟩ := S
  obtain ⟨-, ⟨cellB, hcB, hoB, hclB⟩, hPc⟩ := hp
  intro T hT X
  rcases vx_callVN X hx (C := C) (bytes := bytes) (maxL := maxL) (ret := ret) ho hl hx1 hx2 hcode hy hK (by rw [hT]; exact hcB) hoB hclB hg (hsize.trans hml.symm) (argsL := As) (rest := rest) (fun sig h => hn.trans (hlen sig h)) hstack hW (by rw [hb]; exact hdg)
    (fun vm₁ hW₁ => ⟨hf.1, hf.2, hPc (T.setVm vm₁) hT hW₁⟩) with ⟨v, vm₁, ⟨U', l2, c2, s2⟩, hW₁, X', ⟨g', mk, t, L, e1, e2, hq, h1, hL, h2, h3⟩, st⟩ | ⟨q, vm₁, ⟨U', l2, c2, s2⟩, hW₁, X', ⟨g', mk, t, L, E, ce, e1, e2, hq, hce, hcv, hcl, h1, hL, h2, h3⟩, st⟩
  · dsimp only [Pt.U, Pt.locs, Pt.cells, Pt.slots] at X' e1 e2 h1 h2 h3 st
    subst h1; subst h2; subst h3
    exact Or.inl ⟨v, (T.setVm vm₁).calling g' mk (Value.ref b :: As).toArray, t, U', L, hT, X', hL, e1, e2, hq, st⟩
  · dsimp only [Pt.U, Pt.locs, Pt.cells, Pt.slots] at X' e1 e2 h1 h2 h3 st hcl
    subst h1; subst h2; subst h3
    exact Or.inr ⟨q, (T.setVm vm₁).calling g' mk (Value.ref b :: As).toArray, t, U', L, E, ce, hT, X', hL, e1, e2, hq, hce, hcv, vx_cls hW₁ hcl, st⟩
theorem vx_runSN {y : MethodName} {bytes cc : ByteArray} {maxL nL mc ms n index : Nat} {ret : Option FieldType} {ws : List Cond} {rm : Room} {Pc : Array Value → State → Prop} {Qc : Array Value → State → Outcome → State → Prop} {XC : String → State → State → Prop} {free : Addr → Prop} {Ts : List Cond} {own host : String} {As rest : List Value} {g : JFrame}
    (S : CallFix p m c cc nL s args Ts own) (hM : vx_Met l y ws rm Pc Qc XC mc ms free) (cw : va_CN R s args own index y host bytes maxL ret ws rm mc ms n ∧ (Cond.static y).before args s = true ∧ True) (hp : PreS s H Pc As)
    (hg : g.method = m) (hn : As.length = n) (hsize : g.locals.size = nL) (hstack : g.stack = As.reverse ++ rest) (hW : 2 * g.monitorRoom + (rest.map fun v => v.category).sum ≤ 8) (hdg : decode cc g.pc = .ok (.invokestatic index, 3)) (hf : cells + mc ≤ R.cells ∧ slots + ms ≤ R.slots) :
    vx_Run p l e R s m args below meth c H locs cells slots mc ms g rest (Qc As.toArray) XC free := by
  obtain ⟨⟨⟨hrc, hrs, hfr, hlo, hws, hcw⟩, hcode, hini, hy, hlen, hl⟩, hx1, hx2⟩ := cw
  have hK : vx_Back l R p e below s args y 3 8 (PreOf R mc ms Pc) (PostOf Qc mc ms free) (vx_Post XC mc ms free) := vx_back (bytes := bytes) (maxL := maxL) (ret := ret) hM hp.1 hrc hrs hfr hlo hws hcw (fun a' U hW => word_at hW (Or.inl (by first | rfl | simp [Cond.onTables, Cond.keeps, Cond.steady])) hini)
  obtain ⟨hx, hb, hml, ho, -⟩ := S
  have hPc := hp.2
  intro T hT X
  rcases vx_callSN X hx (bytes := bytes) (maxL := maxL) (ret := ret) ho hl hx1 hini hcode hy hK hg (hsize.trans hml.symm) (argsL := As) (rest := rest) (fun sig h => hn.trans (hlen sig h)) hstack hW (by rw [hb]; exact hdg)
    (fun vm₁ hW₁ => ⟨hf.1, hf.2, hPc (T.setVm vm₁) hT hW₁⟩) with ⟨v, vm₁, ⟨U', l2, c2, s2⟩, hW₁, X', ⟨g', mk, t, L, e1, e2, hq, h1, hL, h2, h3⟩, st⟩ | ⟨q, vm₁, ⟨U', l2, c2, s2⟩, hW₁, X', ⟨g', mk, t, L, E, ce, e1, e2, hq, hce, hcv, hcl, h1, hL, h2, h3⟩, st⟩
  · dsimp only [Pt.U, Pt.locs, Pt.cells, Pt.slots] at X' e1 e2 h1 h2 h3 st
    subst h1; subst h2; subst h3
    exact Or.inl ⟨v, (T.setVm vm₁).calling g' mk As.toArray, t, U', L, hT, X', hL, e1, e2, hq, st⟩
  · dsimp only [Pt.U, Pt.locs, Pt.cells, Pt.slots] at X' e1 e2 h1 h2 h3 st hcl
    subst h1; subst h2; subst h3
    exact Or.inr ⟨q, (T.setVm vm₁).calling g' mk As.toArray, t, U', L, E, ce, hT, X', hL, e1, e2, hq, hce, hcv, vx_cls hW₁ hcl, st⟩
end
/-! ===== END ===== -/
/-! ===== BEGIN calls by an interface of methods that may throw (vx_callIF, vx_runF follow va_callIF, va_runF of this kit) ===== -/
section
variable {p : Program} {l : Launch} {e : Env} {R : Room} {s : State} {m : MethodId} {args : Array Value} {below : List Frame} {meth : Method} {c : Code} {H : Heap} {locs : List Loc} {cells slots : Nat} {Q : State → Prop}
variable {mc ms : Nat} {free : Addr → Prop} {A0 A1 : Nat → Prop} {H0 : Heap} {a : Array Value} {pc : Nat} {ls : Array Slot} {st0 rest : List Value}
def vx_Run5 (p : Program) (l : Launch) (e : Env) (R : Room) (s : State) (m : MethodId) (args : Array Value) (below : List Frame) (meth : Method) (c : Code) (H : Heap) (locs : List Loc) (cells slots mc ms : Nat) (g : JFrame) (rest : List Value) (Qa : State → Outcome → State → Prop) (XC : String → State → State → Prop) (free : Addr → Prop) : Prop :=
  ∀ T : State, T.heap = H → Stand p l e R s m args below meth c T locs cells slots →
    (∃ (v : Option Value) (st₀ t T' : State) (L : List Loc), st₀.heap = H ∧ Stand p l e R s m args below meth c T' (locs ++ L) (cells + mc) (slots + ms) ∧ (∀ q ∈ L, free q.base) ∧ T'.heap = t.heap ∧ T'.vm = t.vm ∧ Qa st₀ (.returned v) t ∧
      Goes p e below T g T' { g with pc := g.pc + 5, stack := v.toList ++ rest }) ∨
    (∃ (q : Addr) (st₀ t T' : State) (L : List Loc) (E : String) (ce : Cell), st₀.heap = H ∧ Stand p l e R s m args below meth c T' (locs ++ L) (cells + mc) (slots + ms) ∧ (∀ z ∈ L, free z.base) ∧ T'.heap = t.heap ∧ T'.vm = t.vm ∧ XC E st₀ t ∧ t.heap[q]? = some ce ∧ ce.vm = .none ∧ s.vm.findClass E = some ce.cls ∧
      Steps p.tables e below (T.setTop g) ((T'.setTop { g with stack := rest }).pushFrame (.throwing q)))
theorem vx_callIF {T : State} (X : Stand p l e R s m args below meth c T locs cells slots) (hexec : p.tables.exec = Jvm.exec) {own C : String} {index count : Nat} {x y : MethodName} {bytes : ByteArray} {maxL : Nat} {ret : Option FieldType}
    (hown : s.vm.findClass own = some m.cls) (hlink : (Cond.methodLink own index x).before args s = true) (hdecl : (Cond.declares x).before args s = true) (hface : (Cond.interfaceMethod x.cls x.cls x.name x.desc).before args s = true)
    (hsel : (Cond.selects C x y).before args s = true) (hinst : (Cond.instanceMethod y).before args s = true) (hpub : (Cond.publicMethod y).before args s = true) (hunh : (Cond.unhidden C x.name x.desc).before args s = true)
    (hcast : (Cond.castable C x.cls).before args s = true) (hcode : (Cond.code y bytes maxL ret).before args s = true) (hx : x.cls ≠ "java/lang/invoke/MethodHandle" ∧ x.cls ≠ "java/lang/invoke/VarHandle")
    {W9 : Nat} {Pre : Pt → Array Value → Prop} {Post : Pt → Array Value → Option Value → Pt → Prop} {PostX : Pt → Array Value → Addr → Pt → Prop} (hK : vx_Back l R p e below s args y 5 W9 Pre Post PostX)
    {b : Addr} {cellB : Cell} {kB : Class} (hcell : T.heap[b]? = some cellB) (hobj : cellB.vm.isStatics = false) (hcls : s.vm.findClass C = some cellB.cls) (hkB : s.vm.classes[cellB.cls]? = some kB)
    {g : JFrame} (hg : g.method = m) (hsize : g.locals.size = c.maxLocals) {argsL rest : List Value} (hlen : ∀ sig, parseMethodDescriptor x.desc = some sig → argsL.length = sig.parameters.length)
    (hstack : g.stack = argsL.reverse ++ .ref b :: rest) (hW : 2 * g.monitorRoom + (rest.map fun v => v.category).sum ≤ W9) (hdg : decode c.code g.pc = .ok (.invokeinterface index count, 5))
    (hpre : ∀ vm₁, s.WarmedH vm₁ → Pre ⟨T.setVm vm₁, locs, cells, slots⟩ (Value.ref b :: argsL).toArray) :
    (∃ (v : Option Value) (vm₁ : Vm) (B : Pt), s.WarmedH vm₁ ∧ Stand p l e R s m args below meth c B.U B.locs B.cells B.slots ∧ Post ⟨T.setVm vm₁, locs, cells, slots⟩ (Value.ref b :: argsL).toArray v B ∧
      ∀ target, Steps p.tables e below (B.U.setTop { g with pc := g.pc + 5, stack := v.toList ++ rest }) target → Steps p.tables e below (T.setTop g) target) ∨
    (∃ (q : Addr) (vm₁ : Vm) (B : Pt), s.WarmedH vm₁ ∧ Stand p l e R s m args below meth c B.U B.locs B.cells B.slots ∧ PostX ⟨T.setVm vm₁, locs, cells, slots⟩ (Value.ref b :: argsL).toArray q B ∧
      Steps p.tables e below (T.setTop g) ((B.U.setTop { g with stack := rest }).pushFrame (.throwing q))) := by
  obtain ⟨r0, r, hn, hrm, hstR, hsigR⟩ := Cond.declares_spec hdecl
  obtain ⟨cL, kL, r1, hcL, hkL, hiL, hfoundL, hn1⟩ := Cond.interfaceMethod_spec hface
  cases hn.symm.trans hn1
  have hr0cls : r0.cls = cL := Option.some.inj ((findClass_of_methodNamed hn).symm.trans hcL)
  obtain ⟨hnameR, hdescR⟩ := name_of_methodNamed hn hrm
  obtain ⟨mk, methM, hnamed, hmethM, -, habM⟩ := Cond.instanceMethod_spec hinst
  obtain ⟨c2, r2, m2, q1, q2, q3, q4, -⟩ := Cond.selects_spec hsel
  cases hcls.symm.trans q1
  cases hfoundL.symm.trans q2
  cases hnamed.symm.trans q3
  have hselP : selectMethod e.platform s.vm cellB.cls r0 = .method mk := by rw [Launch.admits_selectMethod X.admits]; exact q4
  have hpubM : hasFlag methM.accessFlags Acc.public_ = true := Cond.publicMethod_spec hnamed hmethM hpub
  have hway : ((cellB.cls :: s.vm.superclasses cellB.cls).any fun k => (declaredIn s.vm r.name r.desc k).any fun (_, z) => z.isPrivate || z.isStatic) = false := by
    rw [hnameR, hdescR]; exact Cond.unhidden_spec hcls hunh
  obtain ⟨c3, t3, w1, w2, w3⟩ := Cond.castable_spec hcast
  cases hcls.symm.trans w1
  cases hcL.symm.trans w2
  obtain ⟨vm₁, X₁, hstep₁⟩ := X.invokeinterface hexec hown hlink hn hrm hstR (by rw [hr0cls]; exact hkL) hiL hx (a := b) (cell := cellB) (kcell := kB) hcell
    (fun z h => by rw [h] at hobj; cases hobj) hkB (by rw [hr0cls]; exact w3) hselP hmethM hway hpubM habM (g := g) hg (argsL := argsL) (rest := rest) (hlen _ hsigR) hstack hdg
  rcases hK m meth c ⟨T.setVm vm₁, locs, cells, slots⟩ { g with stack := rest } (.invokeinterface index count) mk (Value.ref b :: argsL).toArray X₁ hg hsize hdg hW (X₁.named hnamed) (hpre vm₁ X₁.warmed) with ⟨v, B, X', hpost, hsteps⟩ | ⟨q, B, X', hpost, hsteps⟩
  · exact Or.inl ⟨v, vm₁, B, X₁.warmed, X', hpost, fun target h => hstep₁ _ fun acts => by rw [doInvoke_state]; exact hsteps.trans h⟩
  · exact Or.inr ⟨q, vm₁, B, X₁.warmed, X', hpost, hstep₁ _ fun acts => by rw [doInvoke_state]; exact hsteps⟩
theorem vx_runF {x y : MethodName} {bytes cc : ByteArray} {maxL nL mc ms n index count : Nat} {ret : Option FieldType} {ws : List Cond} {rm : Room} {Pc : Array Value → State → Prop} {Qc : Array Value → State → Outcome → State → Prop} {XC : String → State → State → Prop} {free : Addr → Prop} {Ts : List Cond} {own C : String} {cC : ClassId} {b : Addr} {As rest : List Value} {g : JFrame}
    (hat : ClassAt s C cC) (S : CallFix p m c cc nL s args Ts own) (hM : vx_Met l y ws rm Pc Qc XC mc ms free) (cw : va_CI R s args own C index x y bytes maxL ret ws rm mc ms n) (hp : PreV s H C b Pc As)
    (hg : g.method = m) (hn : As.length = n) (hsize : g.locals.size = nL) (hstack : g.stack = As.reverse ++ .ref b :: rest) (hW : 2 * g.monitorRoom + (rest.map fun v => v.category).sum ≤ 8) (hdg : decode cc g.pc = .ok (.invokeinterface index count, 5)) (hf : cells + mc ≤ R.cells ∧ slots + ms ≤ R.slots) :
    vx_Run5 p l e R s m args below meth c H locs cells slots mc ms g rest (Qc (Value.ref b :: As).toArray) XC free := by
  obtain ⟨hrc, hrs, hfr, hlo, hws, hcw⟩ := cw.back
  have hini := cw.init
  have hK : vx_Back l R p e below s args y 5 8 (PreOf R mc ms Pc) (PostOf Qc mc ms free) (vx_Post XC mc ms free) := vx_back (bytes := bytes) (maxL := maxL) (ret := ret) hM hp.1 hrc hrs hfr hlo hws hcw (fun a' U hW => word_at hW (Or.inl (by first | rfl | simp [Cond.onTables, Cond.keeps, Cond.steady])) hini)
  obtain ⟨hx, hb, hml, ho, -⟩ := S
  obtain ⟨-, ⟨cellB, hcB, hoB, hclB⟩, hPc⟩ := hp
  obtain ⟨hfc, kB, hkB, -⟩ := hat
  cases hfc.symm.trans hclB
  intro T hT X
  rcases vx_callIF X hx (C := C) (bytes := bytes) (maxL := maxL) (ret := ret) ho cw.link cw.decl cw.face cw.sel cw.inst cw.pub cw.unh cw.cast cw.code cw.notMH hK (by rw [hT]; exact hcB) hoB hclB hkB hg (hsize.trans hml.symm) (argsL := As) (rest := rest) (fun sig h => hn.trans (cw.len sig h)) hstack hW (by rw [hb]; exact hdg)
    (fun vm₁ hW₁ => ⟨hf.1, hf.2, hPc (T.setVm vm₁) hT hW₁⟩) with ⟨v, vm₁, ⟨U', l2, c2, s2⟩, hW₁, X', ⟨g', mk, t, L, e1, e2, hq, h1, hL, h2, h3⟩, st⟩ | ⟨q, vm₁, ⟨U', l2, c2, s2⟩, hW₁, X', ⟨g', mk, t, L, E, ce, e1, e2, hq, hce, hcv, hcl, h1, hL, h2, h3⟩, st⟩
  · dsimp only [Pt.U, Pt.locs, Pt.cells, Pt.slots] at X' e1 e2 h1 h2 h3 st
    subst h1; subst h2; subst h3
    exact Or.inl ⟨v, (T.setVm vm₁).calling g' mk (Value.ref b :: As).toArray, t, U', L, hT, X', hL, e1, e2, hq, st⟩
  · dsimp only [Pt.U, Pt.locs, Pt.cells, Pt.slots] at X' e1 e2 h1 h2 h3 st hcl
    subst h1; subst h2; subst h3
    exact Or.inr ⟨q, (T.setVm vm₁).calling g' mk (Value.ref b :: As).toArray, t, U', L, E, ce, hT, X', hL, e1, e2, hq, hce, hcv, vx_cls hW₁ hcl, st⟩
theorem vx_callFv {S SX : Type} {post : S → Prop} {px : SX → Prop} {B : S → State → Prop} {BX : String → SX → State → Prop} {AX : Nat → Prop} (hr : vx_Run5 p l e R s m args below meth c H locs cells slots mc ms (F0 m pc ls st0) rest (va_Qv post B A1 a) (vx_X px BX AX) free) (hS : va_S A0 H0 H locs) (hA : ∀ q, q < H.size → A1 q → A0 q) (hf : ∀ q, free q → A0 q) (hAX : ∀ q, q < H.size → AX q → A0 q)
    (kx : ∀ (E : String) (ce : Cell) (q9 : Addr) (u : SX) (t : State) (H1 : Heap) (locs1 : List Loc), t.heap = H1 → s.vm.Alike t.vm → px u → BX E u t → H.size ≤ H1.size → (∀ q : Nat, q < H.size → ¬ AX q → H1[q]? = H[q]?) → va_S A0 H0 H1 locs1 → H1[q9]? = some ce → ce.vm = .none → s.vm.findClass E = some ce.cls → vx_W p l e R s m args below meth c H1 locs1 (cells + mc) (slots + ms) Q (F0 m pc ls rest) q9)
    (kk : ∀ (u : S) (t : State) (H1 : Heap) (locs1 : List Loc), t.heap = H1 → s.vm.Alike t.vm → post u → B u t → H.size ≤ H1.size → (∀ q : Nat, q < H.size → ¬ A1 q → H1[q]? = H[q]?) → va_S A0 H0 H1 locs1 → W p l e R s m args below meth c H1 locs1 (cells + mc) (slots + ms) Q (F0 m (pc + 5) ls (rest))) : W p l e R s m args below meth c H locs cells slots Q (F0 m pc ls st0) := by
  intro T hT X
  rcases hr T hT X with ⟨v, st₀, t, T', L, h0, X', hL, e1, e2, ⟨⟨u, hv, hp, hb⟩, hF⟩, st⟩ | ⟨q, st₀, t, T', L, E, ce, h0, X', hL, e1, e2, ⟨u, hp, hb, hF⟩, hce, hcv, hcl, st⟩
  · cases hv
    obtain ⟨k1, k2, k3⟩ := vx_keep h0 e1 hS hA hf hL hF
    obtain ⟨t2, a1, b1⟩ := kk u t T'.heap (locs ++ L) e1.symm (by rw [← e2]; exact X'.warmed.alike) hp hb k1 k2 k3 T' rfl X'
    exact ⟨t2, st t2 a1, b1⟩
  · obtain ⟨k1, k2, k3⟩ := vx_keep h0 e1 hS hAX hf hL hF
    obtain ⟨t2, a1, b1⟩ := kx E ce q u t T'.heap (locs ++ L) e1.symm (by rw [← e2]; exact X'.warmed.alike) hp hb k1 k2 k3 (by rw [e1]; exact hce) hcv hcl T' rfl X'
    exact ⟨t2, st.trans a1, b1⟩
theorem vx_callFi {S SX : Type} {post : Int32 → S → Prop} {px : SX → Prop} {B : S → State → Prop} {BX : String → SX → State → Prop} {AX : Nat → Prop} (hr : vx_Run5 p l e R s m args below meth c H locs cells slots mc ms (F0 m pc ls st0) rest (va_Qi post B A1 a) (vx_X px BX AX) free) (hS : va_S A0 H0 H locs) (hA : ∀ q, q < H.size → A1 q → A0 q) (hf : ∀ q, free q → A0 q) (hAX : ∀ q, q < H.size → AX q → A0 q)
    (kx : ∀ (E : String) (ce : Cell) (q9 : Addr) (u : SX) (t : State) (H1 : Heap) (locs1 : List Loc), t.heap = H1 → s.vm.Alike t.vm → px u → BX E u t → H.size ≤ H1.size → (∀ q : Nat, q < H.size → ¬ AX q → H1[q]? = H[q]?) → va_S A0 H0 H1 locs1 → H1[q9]? = some ce → ce.vm = .none → s.vm.findClass E = some ce.cls → vx_W p l e R s m args below meth c H1 locs1 (cells + mc) (slots + ms) Q (F0 m pc ls rest) q9)
    (kk : ∀ (r : Int32) (u : S) (t : State) (H1 : Heap) (locs1 : List Loc), t.heap = H1 → s.vm.Alike t.vm → post r u → B u t → H.size ≤ H1.size → (∀ q : Nat, q < H.size → ¬ A1 q → H1[q]? = H[q]?) → va_S A0 H0 H1 locs1 → W p l e R s m args below meth c H1 locs1 (cells + mc) (slots + ms) Q (F0 m (pc + 5) ls (.int r :: rest))) : W p l e R s m args below meth c H locs cells slots Q (F0 m pc ls st0) := by
  intro T hT X
  rcases hr T hT X with ⟨v, st₀, t, T', L, h0, X', hL, e1, e2, ⟨⟨r, u, hv, hp, hb⟩, hF⟩, st⟩ | ⟨q, st₀, t, T', L, E, ce, h0, X', hL, e1, e2, ⟨u, hp, hb, hF⟩, hce, hcv, hcl, st⟩
  · cases hv
    obtain ⟨k1, k2, k3⟩ := vx_keep h0 e1 hS hA hf hL hF
    obtain ⟨t2, a1, b1⟩ := kk r u t T'.heap (locs ++ L) e1.symm (by rw [← e2]; exact X'.warmed.alike) hp hb k1 k2 k3 T' rfl X'
    exact ⟨t2, st t2 a1, b1⟩
  · obtain ⟨k1, k2, k3⟩ := vx_keep h0 e1 hS hAX hf hL hF
    obtain ⟨t2, a1, b1⟩ := kx E ce q u t T'.heap (locs ++ L) e1.symm (by rw [← e2]; exact X'.warmed.alike) hp hb k1 k2 k3 (by rw [e1]; exact hce) hcv hcl T' rfl X'
    exact ⟨t2, st.trans a1, b1⟩
theorem vx_callFl {S SX : Type} {post : Int64 → S → Prop} {px : SX → Prop} {B : S → State → Prop} {BX : String → SX → State → Prop} {AX : Nat → Prop} (hr : vx_Run5 p l e R s m args below meth c H locs cells slots mc ms (F0 m pc ls st0) rest (va_Ql post B A1 a) (vx_X px BX AX) free) (hS : va_S A0 H0 H locs) (hA : ∀ q, q < H.size → A1 q → A0 q) (hf : ∀ q, free q → A0 q) (hAX : ∀ q, q < H.size → AX q → A0 q)
    (kx : ∀ (E : String) (ce : Cell) (q9 : Addr) (u : SX) (t : State) (H1 : Heap) (locs1 : List Loc), t.heap = H1 → s.vm.Alike t.vm → px u → BX E u t → H.size ≤ H1.size → (∀ q : Nat, q < H.size → ¬ AX q → H1[q]? = H[q]?) → va_S A0 H0 H1 locs1 → H1[q9]? = some ce → ce.vm = .none → s.vm.findClass E = some ce.cls → vx_W p l e R s m args below meth c H1 locs1 (cells + mc) (slots + ms) Q (F0 m pc ls rest) q9)
    (kk : ∀ (r : Int64) (u : S) (t : State) (H1 : Heap) (locs1 : List Loc), t.heap = H1 → s.vm.Alike t.vm → post r u → B u t → H.size ≤ H1.size → (∀ q : Nat, q < H.size → ¬ A1 q → H1[q]? = H[q]?) → va_S A0 H0 H1 locs1 → W p l e R s m args below meth c H1 locs1 (cells + mc) (slots + ms) Q (F0 m (pc + 5) ls (.long r :: rest))) : W p l e R s m args below meth c H locs cells slots Q (F0 m pc ls st0) := by
  intro T hT X
  rcases hr T hT X with ⟨v, st₀, t, T', L, h0, X', hL, e1, e2, ⟨⟨r, u, hv, hp, hb⟩, hF⟩, st⟩ | ⟨q, st₀, t, T', L, E, ce, h0, X', hL, e1, e2, ⟨u, hp, hb, hF⟩, hce, hcv, hcl, st⟩
  · cases hv
    obtain ⟨k1, k2, k3⟩ := vx_keep h0 e1 hS hA hf hL hF
    obtain ⟨t2, a1, b1⟩ := kk r u t T'.heap (locs ++ L) e1.symm (by rw [← e2]; exact X'.warmed.alike) hp hb k1 k2 k3 T' rfl X'
    exact ⟨t2, st t2 a1, b1⟩
  · obtain ⟨k1, k2, k3⟩ := vx_keep h0 e1 hS hAX hf hL hF
    obtain ⟨t2, a1, b1⟩ := kx E ce q u t T'.heap (locs ++ L) e1.symm (by rw [← e2]; exact X'.warmed.alike) hp hb k1 k2 k3 (by rw [e1]; exact hce) hcv hcl T' rfl X'
    exact ⟨t2, st.trans a1, b1⟩
theorem vx_callFf {S SX : Type} {post : UInt32 → S → Prop} {px : SX → Prop} {B : S → State → Prop} {BX : String → SX → State → Prop} {AX : Nat → Prop} (hr : vx_Run5 p l e R s m args below meth c H locs cells slots mc ms (F0 m pc ls st0) rest (va_Qf post B A1 a) (vx_X px BX AX) free) (hS : va_S A0 H0 H locs) (hA : ∀ q, q < H.size → A1 q → A0 q) (hf : ∀ q, free q → A0 q) (hAX : ∀ q, q < H.size → AX q → A0 q)
    (kx : ∀ (E : String) (ce : Cell) (q9 : Addr) (u : SX) (t : State) (H1 : Heap) (locs1 : List Loc), t.heap = H1 → s.vm.Alike t.vm → px u → BX E u t → H.size ≤ H1.size → (∀ q : Nat, q < H.size → ¬ AX q → H1[q]? = H[q]?) → va_S A0 H0 H1 locs1 → H1[q9]? = some ce → ce.vm = .none → s.vm.findClass E = some ce.cls → vx_W p l e R s m args below meth c H1 locs1 (cells + mc) (slots + ms) Q (F0 m pc ls rest) q9)
    (kk : ∀ (r : UInt32) (u : S) (t : State) (H1 : Heap) (locs1 : List Loc), t.heap = H1 → s.vm.Alike t.vm → post r u → B u t → H.size ≤ H1.size → (∀ q : Nat, q < H.size → ¬ A1 q → H1[q]? = H[q]?) → va_S A0 H0 H1 locs1 → W p l e R s m args below meth c H1 locs1 (cells + mc) (slots + ms) Q (F0 m (pc + 5) ls (.float r :: rest))) : W p l e R s m args below meth c H locs cells slots Q (F0 m pc ls st0) := by
  intro T hT X
  rcases hr T hT X with ⟨v, st₀, t, T', L, h0, X', hL, e1, e2, ⟨⟨r, u, hv, hp, hb⟩, hF⟩, st⟩ | ⟨q, st₀, t, T', L, E, ce, h0, X', hL, e1, e2, ⟨u, hp, hb, hF⟩, hce, hcv, hcl, st⟩
  · cases hv
    obtain ⟨k1, k2, k3⟩ := vx_keep h0 e1 hS hA hf hL hF
    obtain ⟨t2, a1, b1⟩ := kk r u t T'.heap (locs ++ L) e1.symm (by rw [← e2]; exact X'.warmed.alike) hp hb k1 k2 k3 T' rfl X'
    exact ⟨t2, st t2 a1, b1⟩
  · obtain ⟨k1, k2, k3⟩ := vx_keep h0 e1 hS hAX hf hL hF
    obtain ⟨t2, a1, b1⟩ := kx E ce q u t T'.heap (locs ++ L) e1.symm (by rw [← e2]; exact X'.warmed.alike) hp hb k1 k2 k3 (by rw [e1]; exact hce) hcv hcl T' rfl X'
    exact ⟨t2, st.trans a1, b1⟩
theorem vx_callFd {S SX : Type} {post : UInt64 → S → Prop} {px : SX → Prop} {B : S → State → Prop} {BX : String → SX → State → Prop} {AX : Nat → Prop} (hr : vx_Run5 p l e R s m args below meth c H locs cells slots mc ms (F0 m pc ls st0) rest (va_Qd post B A1 a) (vx_X px BX AX) free) (hS : va_S A0 H0 H locs) (hA : ∀ q, q < H.size → A1 q → A0 q) (hf : ∀ q, free q → A0 q) (hAX : ∀ q, q < H.size → AX q → A0 q)
    (kx : ∀ (E : String) (ce : Cell) (q9 : Addr) (u : SX) (t : State) (H1 : Heap) (locs1 : List Loc), t.heap = H1 → s.vm.Alike t.vm → px u → BX E u t → H.size ≤ H1.size → (∀ q : Nat, q < H.size → ¬ AX q → H1[q]? = H[q]?) → va_S A0 H0 H1 locs1 → H1[q9]? = some ce → ce.vm = .none → s.vm.findClass E = some ce.cls → vx_W p l e R s m args below meth c H1 locs1 (cells + mc) (slots + ms) Q (F0 m pc ls rest) q9)
    (kk : ∀ (r : UInt64) (u : S) (t : State) (H1 : Heap) (locs1 : List Loc), t.heap = H1 → s.vm.Alike t.vm → post r u → B u t → H.size ≤ H1.size → (∀ q : Nat, q < H.size → ¬ A1 q → H1[q]? = H[q]?) → va_S A0 H0 H1 locs1 → W p l e R s m args below meth c H1 locs1 (cells + mc) (slots + ms) Q (F0 m (pc + 5) ls (.double r :: rest))) : W p l e R s m args below meth c H locs cells slots Q (F0 m pc ls st0) := by
  intro T hT X
  rcases hr T hT X with ⟨v, st₀, t, T', L, h0, X', hL, e1, e2, ⟨⟨r, u, hv, hp, hb⟩, hF⟩, st⟩ | ⟨q, st₀, t, T', L, E, ce, h0, X', hL, e1, e2, ⟨u, hp, hb, hF⟩, hce, hcv, hcl, st⟩
  · cases hv
    obtain ⟨k1, k2, k3⟩ := vx_keep h0 e1 hS hA hf hL hF
    obtain ⟨t2, a1, b1⟩ := kk r u t T'.heap (locs ++ L) e1.symm (by rw [← e2]; exact X'.warmed.alike) hp hb k1 k2 k3 T' rfl X'
    exact ⟨t2, st t2 a1, b1⟩
  · obtain ⟨k1, k2, k3⟩ := vx_keep h0 e1 hS hAX hf hL hF
    obtain ⟨t2, a1, b1⟩ := kx E ce q u t T'.heap (locs ++ L) e1.symm (by rw [← e2]; exact X'.warmed.alike) hp hb k1 k2 k3 (by rw [e1]; exact hce) hcv hcl T' rfl X'
    exact ⟨t2, st.trans a1, b1⟩
end
/-! ===== END ===== -/
/-! ===== BEGIN by an interface, a method with a table of its own that may throw (follows va_callIFW, va_runFW) ===== -/
section
variable {p : Program} {l : Launch} {e : Env} {R : Room} {s : State} {m : MethodId} {args : Array Value} {below : List Frame} {meth : Method} {c : Code} {H : Heap} {locs : List Loc} {cells slots : Nat}
theorem vx_callIFW {T : State} (X : Stand p l e R s m args below meth c T locs cells slots) (hexec : p.tables.exec = Jvm.exec) {own C : String} {index count : Nat} {x y : MethodName} {bytes : ByteArray} {maxL : Nat} {ret : Option FieldType} {hh : List (Nat × Nat × Nat × Nat)}
    (hown : s.vm.findClass own = some m.cls) (hlink : (Cond.methodLink own index x).before args s = true) (hdecl : (Cond.declares x).before args s = true) (hface : (Cond.interfaceMethod x.cls x.cls x.name x.desc).before args s = true)
    (hsel : (Cond.selects C x y).before args s = true) (hinst : (Cond.instanceMethod y).before args s = true) (hpub : (Cond.publicMethod y).before args s = true) (hunh : (Cond.unhidden C x.name x.desc).before args s = true)
    (hcast : (Cond.castable C x.cls).before args s = true) (hcode : (Cond.codeWith y bytes maxL ret hh).before args s = true) (hx : x.cls ≠ "java/lang/invoke/MethodHandle" ∧ x.cls ≠ "java/lang/invoke/VarHandle")
    {W : Nat} {Pre : Pt → Array Value → Prop} {Post : Pt → Array Value → Option Value → Pt → Prop} {PostX : Pt → Array Value → Addr → Pt → Prop} (hK : vx_Back l R p e below s args y 5 W Pre Post PostX)
    {b : Addr} {cellB : Cell} {kB : Class} (hcell : T.heap[b]? = some cellB) (hobj : cellB.vm.isStatics = false) (hcls : s.vm.findClass C = some cellB.cls) (hkB : s.vm.classes[cellB.cls]? = some kB)
    {g : JFrame} (hg : g.method = m) (hsize : g.locals.size = c.maxLocals) {argsL rest : List Value} (hlen : ∀ sig, parseMethodDescriptor x.desc = some sig → argsL.length = sig.parameters.length)
    (hstack : g.stack = argsL.reverse ++ .ref b :: rest) (hW : 2 * g.monitorRoom + (rest.map fun v => v.category).sum ≤ W) (hdg : decode c.code g.pc = .ok (.invokeinterface index count, 5))
    (hpre : ∀ vm₁, s.WarmedH vm₁ → Pre ⟨T.setVm vm₁, locs, cells, slots⟩ (Value.ref b :: argsL).toArray) :
    (∃ (v : Option Value) (vm₁ : Vm) (B : Pt), s.WarmedH vm₁ ∧ Stand p l e R s m args below meth c B.U B.locs B.cells B.slots ∧ Post ⟨T.setVm vm₁, locs, cells, slots⟩ (Value.ref b :: argsL).toArray v B ∧
      ∀ target, Steps p.tables e below (B.U.setTop { g with pc := g.pc + 5, stack := v.toList ++ rest }) target → Steps p.tables e below (T.setTop g) target) ∨
    (∃ (q : Addr) (vm₁ : Vm) (B : Pt), s.WarmedH vm₁ ∧ Stand p l e R s m args below meth c B.U B.locs B.cells B.slots ∧ PostX ⟨T.setVm vm₁, locs, cells, slots⟩ (Value.ref b :: argsL).toArray q B ∧
      Steps p.tables e below (T.setTop g) ((B.U.setTop { g with stack := rest }).pushFrame (.throwing q))) := by
  obtain ⟨r0, r, hn, hrm, hstR, hsigR⟩ := Cond.declares_spec hdecl
  obtain ⟨cL, kL, r1, hcL, hkL, hiL, hfoundL, hn1⟩ := Cond.interfaceMethod_spec hface
  cases hn.symm.trans hn1
  have hr0cls : r0.cls = cL := Option.some.inj ((findClass_of_methodNamed hn).symm.trans hcL)
  obtain ⟨hnameR, hdescR⟩ := name_of_methodNamed hn hrm
  obtain ⟨mk, methM, hnamed, hmethM, -, habM⟩ := Cond.instanceMethod_spec hinst
  obtain ⟨c2, r2, m2, q1, q2, q3, q4, -⟩ := Cond.selects_spec hsel
  cases hcls.symm.trans q1
  cases hfoundL.symm.trans q2
  cases hnamed.symm.trans q3
  have hselP : selectMethod e.platform s.vm cellB.cls r0 = .method mk := by rw [Launch.admits_selectMethod X.admits]; exact q4
  have hpubM : hasFlag methM.accessFlags Acc.public_ = true := Cond.publicMethod_spec hnamed hmethM hpub
  have hway : ((cellB.cls :: s.vm.superclasses cellB.cls).any fun k => (declaredIn s.vm r.name r.desc k).any fun (_, z) => z.isPrivate || z.isStatic) = false := by
    rw [hnameR, hdescR]; exact Cond.unhidden_spec hcls hunh
  obtain ⟨c3, t3, w1, w2, w3⟩ := Cond.castable_spec hcast
  cases hcls.symm.trans w1
  cases hcL.symm.trans w2
  obtain ⟨vm₁, X₁, hstep₁⟩ := X.invokeinterface hexec hown hlink hn hrm hstR (by rw [hr0cls]; exact hkL) hiL hx (a := b) (cell := cellB) (kcell := kB) hcell
    (fun z h => by rw [h] at hobj; cases hobj) hkB (by rw [hr0cls]; exact w3) hselP hmethM hway hpubM habM (g := g) hg (argsL := argsL) (rest := rest) (hlen _ hsigR) hstack hdg
  rcases hK m meth c ⟨T.setVm vm₁, locs, cells, slots⟩ { g with stack := rest } (.invokeinterface index count) mk (Value.ref b :: argsL).toArray X₁ hg hsize hdg hW (X₁.named hnamed) (hpre vm₁ X₁.warmed) with ⟨v, B, X', hpost, hsteps⟩ | ⟨q, B, X', hpost, hsteps⟩
  · exact Or.inl ⟨v, vm₁, B, X₁.warmed, X', hpost, fun target h => hstep₁ _ fun acts => by rw [doInvoke_state]; exact hsteps.trans h⟩
  · exact Or.inr ⟨q, vm₁, B, X₁.warmed, X', hpost, hstep₁ _ fun acts => by rw [doInvoke_state]; exact hsteps⟩
theorem vx_runFW {x y : MethodName} {bytes cc : ByteArray} {maxL nL mc ms n index count : Nat} {ret : Option FieldType} {hh : List (Nat × Nat × Nat × Nat)} {ws : List Cond} {rm : Room} {Pc : Array Value → State → Prop} {Qc : Array Value → State → Outcome → State → Prop} {XC : String → State → State → Prop} {free : Addr → Prop} {Ts : List Cond} {own C : String} {cC : ClassId} {b : Addr} {As rest : List Value} {g : JFrame}
    (hat : ClassAt s C cC) (S : CallFix p m c cc nL s args Ts own) (hM : vx_Met l y ws rm Pc Qc XC mc ms free) (cw : va_CIW R s args own C index x y bytes maxL ret hh ws rm mc ms n) (hp : PreV s H C b Pc As)
    (hg : g.method = m) (hn : As.length = n) (hsize : g.locals.size = nL) (hstack : g.stack = As.reverse ++ .ref b :: rest) (hW : 2 * g.monitorRoom + (rest.map fun v => v.category).sum ≤ 8) (hdg : decode cc g.pc = .ok (.invokeinterface index count, 5)) (hf : cells + mc ≤ R.cells ∧ slots + ms ≤ R.slots) :
    vx_Run5 p l e R s m args below meth c H locs cells slots mc ms g rest (Qc (Value.ref b :: As).toArray) XC free := by
  obtain ⟨hrc, hrs, hfr, hlo, hws, hcw⟩ := cw.back
  have hini := cw.init
  have hK : vx_Back l R p e below s args y 5 8 (PreOf R mc ms Pc) (PostOf Qc mc ms free) (vx_Post XC mc ms free) := vx_backW (hh := hh) (bytes := bytes) (maxL := maxL) (ret := ret) hM hp.1 hrc hrs hfr hlo hws hcw (fun a' U hW => word_at hW (Or.inl (by first | rfl | simp [Cond.onTables, Cond.keeps, Cond.steady])) hini)
  obtain ⟨hx, hb, hml, ho, -⟩ := S
  obtain ⟨-, ⟨cellB, hcB, hoB, hclB⟩, hPc⟩ := hp
  obtain ⟨hfc, kB, hkB, -⟩ := hat
  cases hfc.symm.trans hclB
  intro T hT X
  rcases vx_callIFW X hx (C := C) (hh := hh) (bytes := bytes) (maxL := maxL) (ret := ret) ho cw.link cw.decl cw.face cw.sel cw.inst cw.pub cw.unh cw.cast cw.code cw.notMH hK (by rw [hT]; exact hcB) hoB hclB hkB hg (hsize.trans hml.symm) (argsL := As) (rest := rest) (fun sig h => hn.trans (cw.len sig h)) hstack hW (by rw [hb]; exact hdg)
    (fun vm₁ hW₁ => ⟨hf.1, hf.2, hPc (T.setVm vm₁) hT hW₁⟩) with ⟨v, vm₁, ⟨U', l2, c2, s2⟩, hW₁, X', ⟨g', mk, t, L, e1, e2, hq, h1, hL, h2, h3⟩, st⟩ | ⟨q, vm₁, ⟨U', l2, c2, s2⟩, hW₁, X', ⟨g', mk, t, L, E, ce, e1, e2, hq, hce, hcv, hcl, h1, hL, h2, h3⟩, st⟩
  · dsimp only [Pt.U, Pt.locs, Pt.cells, Pt.slots] at X' e1 e2 h1 h2 h3 st
    subst h1; subst h2; subst h3
    exact Or.inl ⟨v, (T.setVm vm₁).calling g' mk (Value.ref b :: As).toArray, t, U', L, hT, X', hL, e1, e2, hq, st⟩
  · dsimp only [Pt.U, Pt.locs, Pt.cells, Pt.slots] at X' e1 e2 h1 h2 h3 st hcl
    subst h1; subst h2; subst h3
    exact Or.inr ⟨q, (T.setVm vm₁).calling g' mk (Value.ref b :: As).toArray, t, U', L, E, ce, hT, X', hL, e1, e2, hq, hce, hcv, vx_cls hW₁ hcl, st⟩
end
/-! ===== END ===== -/
/-! ===== BEGIN .. of methods that hand back an object of the pool ===== -/
section
variable {p : Program} {l : Launch} {e : Env} {R : Room} {s : State} {m : MethodId} {args : Array Value} {below : List Frame} {meth : Method} {c : Code} {H : Heap} {locs : List Loc} {cells slots : Nat} {Q : State → Prop}
variable {mc ms : Nat} {free : Addr → Prop} {A0 A1 : Nat → Prop} {H0 : Heap} {a : Array Value} {pc : Nat} {ls : Array Slot} {st0 rest : List Value}
theorem vx_callq {S SX : Type} {post : Option Nat → S → Prop} {px : SX → Prop} {B : S → State → Prop} {BX : String → SX → State → Prop} {AX : Nat → Prop} (hr : vx_Run p l e R s m args below meth c H locs cells slots mc ms (F0 m pc ls st0) rest (va_Qq post B A1 a) (vx_X px BX AX) free) (hS : va_S A0 H0 H locs) (hA : ∀ q, q < H.size → A1 q → A0 q) (hf : ∀ q, free q → A0 q) (hAX : ∀ q, q < H.size → AX q → A0 q)
    (kx : ∀ (E : String) (ce : Cell) (q9 : Addr) (u : SX) (t : State) (H1 : Heap) (locs1 : List Loc), t.heap = H1 → s.vm.Alike t.vm → px u → BX E u t → H.size ≤ H1.size → (∀ q : Nat, q < H.size → ¬ AX q → H1[q]? = H[q]?) → va_S A0 H0 H1 locs1 → H1[q9]? = some ce → ce.vm = .none → s.vm.findClass E = some ce.cls → vx_W p l e R s m args below meth c H1 locs1 (cells + mc) (slots + ms) Q (F0 m pc ls rest) q9)
    (kk : ∀ (r : Option Nat) (u : S) (t : State) (H1 : Heap) (locs1 : List Loc), t.heap = H1 → s.vm.Alike t.vm → post r u → B u t → H.size ≤ H1.size → (∀ q : Nat, q < H.size → ¬ A1 q → H1[q]? = H[q]?) → va_S A0 H0 H1 locs1 → W p l e R s m args below meth c H1 locs1 (cells + mc) (slots + ms) Q (F0 m (pc + 3) ls (va_rf r :: rest))) : W p l e R s m args below meth c H locs cells slots Q (F0 m pc ls st0) := by
  intro T hT X
  rcases hr T hT X with ⟨v, st₀, t, T', L, h0, X', hL, e1, e2, ⟨⟨r, u, hv, hp, hb⟩, hF⟩, st⟩ | ⟨q, st₀, t, T', L, E, ce, h0, X', hL, e1, e2, ⟨u, hp, hb, hF⟩, hce, hcv, hcl, st⟩
  · cases hv
    obtain ⟨k1, k2, k3⟩ := vx_keep h0 e1 hS hA hf hL hF
    obtain ⟨t2, a1, b1⟩ := kk r u t T'.heap (locs ++ L) e1.symm (by rw [← e2]; exact X'.warmed.alike) hp hb k1 k2 k3 T' rfl X'
    exact ⟨t2, st t2 a1, b1⟩
  · obtain ⟨k1, k2, k3⟩ := vx_keep h0 e1 hS hAX hf hL hF
    obtain ⟨t2, a1, b1⟩ := kx E ce q u t T'.heap (locs ++ L) e1.symm (by rw [← e2]; exact X'.warmed.alike) hp hb k1 k2 k3 (by rw [e1]; exact hce) hcv hcl T' rfl X'
    exact ⟨t2, st.trans a1, b1⟩
end
/-! ===== END ===== -/
/-! ===== BEGIN .. a constant ===== -/
section
variable {p : Program} {l : Launch} {e : Env} {R : Room} {s : State} {m : MethodId} {args : Array Value} {below : List Frame} {meth : Method} {c : Code} {H : Heap} {locs : List Loc} {cells slots : Nat} {Q : State → Prop}
variable {mc ms : Nat} {free : Addr → Prop} {A0 A1 : Nat → Prop} {H0 : Heap} {a : Array Value} {pc : Nat} {ls : Array Slot} {st0 rest : List Value}
theorem vx_calle {ad : Nat → Nat} {S SX : Type} {post : Option Nat → S → Prop} {px : SX → Prop} {B : S → State → Prop} {BX : String → SX → State → Prop} {AX : Nat → Prop} (hr : vx_Run p l e R s m args below meth c H locs cells slots mc ms (F0 m pc ls st0) rest (va_Qe ad post B A1 a) (vx_X px BX AX) free) (hS : va_S A0 H0 H locs) (hA : ∀ q, q < H.size → A1 q → A0 q) (hf : ∀ q, free q → A0 q) (hAX : ∀ q, q < H.size → AX q → A0 q)
    (kx : ∀ (E : String) (ce : Cell) (q9 : Addr) (u : SX) (t : State) (H1 : Heap) (locs1 : List Loc), t.heap = H1 → s.vm.Alike t.vm → px u → BX E u t → H.size ≤ H1.size → (∀ q : Nat, q < H.size → ¬ AX q → H1[q]? = H[q]?) → va_S A0 H0 H1 locs1 → H1[q9]? = some ce → ce.vm = .none → s.vm.findClass E = some ce.cls → vx_W p l e R s m args below meth c H1 locs1 (cells + mc) (slots + ms) Q (F0 m pc ls rest) q9)
    (kk : ∀ (r : Option Nat) (u : S) (t : State) (H1 : Heap) (locs1 : List Loc), t.heap = H1 → s.vm.Alike t.vm → post r u → B u t → H.size ≤ H1.size → (∀ q : Nat, q < H.size → ¬ A1 q → H1[q]? = H[q]?) → va_S A0 H0 H1 locs1 → W p l e R s m args below meth c H1 locs1 (cells + mc) (slots + ms) Q (F0 m (pc + 3) ls (va_re ad r :: rest))) : W p l e R s m args below meth c H locs cells slots Q (F0 m pc ls st0) := by
  intro T hT X
  rcases hr T hT X with ⟨v, st₀, t, T', L, h0, X', hL, e1, e2, ⟨⟨r, u, hv, hp, hb⟩, hF⟩, st⟩ | ⟨q, st₀, t, T', L, E, ce, h0, X', hL, e1, e2, ⟨u, hp, hb, hF⟩, hce, hcv, hcl, st⟩
  · cases hv
    obtain ⟨k1, k2, k3⟩ := vx_keep h0 e1 hS hA hf hL hF
    obtain ⟨t2, a1, b1⟩ := kk r u t T'.heap (locs ++ L) e1.symm (by rw [← e2]; exact X'.warmed.alike) hp hb k1 k2 k3 T' rfl X'
    exact ⟨t2, st t2 a1, b1⟩
  · obtain ⟨k1, k2, k3⟩ := vx_keep h0 e1 hS hAX hf hL hF
    obtain ⟨t2, a1, b1⟩ := kx E ce q u t T'.heap (locs ++ L) e1.symm (by rw [← e2]; exact X'.warmed.alike) hp hb k1 k2 k3 (by rw [e1]; exact hce) hcv hcl T' rfl X'
    exact ⟨t2, st.trans a1, b1⟩
end
/-! ===== END ===== -/
/-! ===== BEGIN .. by an interface, an object ===== -/
section
variable {p : Program} {l : Launch} {e : Env} {R : Room} {s : State} {m : MethodId} {args : Array Value} {below : List Frame} {meth : Method} {c : Code} {H : Heap} {locs : List Loc} {cells slots : Nat} {Q : State → Prop}
variable {mc ms : Nat} {free : Addr → Prop} {A0 A1 : Nat → Prop} {H0 : Heap} {a : Array Value} {pc : Nat} {ls : Array Slot} {st0 rest : List Value}
theorem vx_callFq {S SX : Type} {post : Option Nat → S → Prop} {px : SX → Prop} {B : S → State → Prop} {BX : String → SX → State → Prop} {AX : Nat → Prop} (hr : vx_Run5 p l e R s m args below meth c H locs cells slots mc ms (F0 m pc ls st0) rest (va_Qq post B A1 a) (vx_X px BX AX) free) (hS : va_S A0 H0 H locs) (hA : ∀ q, q < H.size → A1 q → A0 q) (hf : ∀ q, free q → A0 q) (hAX : ∀ q, q < H.size → AX q → A0 q)
    (kx : ∀ (E : String) (ce : Cell) (q9 : Addr) (u : SX) (t : State) (H1 : Heap) (locs1 : List Loc), t.heap = H1 → s.vm.Alike t.vm → px u → BX E u t → H.size ≤ H1.size → (∀ q : Nat, q < H.size → ¬ AX q → H1[q]? = H[q]?) → va_S A0 H0 H1 locs1 → H1[q9]? = some ce → ce.vm = .none → s.vm.findClass E = some ce.cls → vx_W p l e R s m args below meth c H1 locs1 (cells + mc) (slots + ms) Q (F0 m pc ls rest) q9)
    (kk : ∀ (r : Option Nat) (u : S) (t : State) (H1 : Heap) (locs1 : List Loc), t.heap = H1 → s.vm.Alike t.vm → post r u → B u t → H.size ≤ H1.size → (∀ q : Nat, q < H.size → ¬ A1 q → H1[q]? = H[q]?) → va_S A0 H0 H1 locs1 → W p l e R s m args below meth c H1 locs1 (cells + mc) (slots + ms) Q (F0 m (pc + 5) ls (va_rf r :: rest))) : W p l e R s m args below meth c H locs cells slots Q (F0 m pc ls st0) := by
  intro T hT X
  rcases hr T hT X with ⟨v, st₀, t, T', L, h0, X', hL, e1, e2, ⟨⟨r, u, hv, hp, hb⟩, hF⟩, st⟩ | ⟨q, st₀, t, T', L, E, ce, h0, X', hL, e1, e2, ⟨u, hp, hb, hF⟩, hce, hcv, hcl, st⟩
  · cases hv
    obtain ⟨k1, k2, k3⟩ := vx_keep h0 e1 hS hA hf hL hF
    obtain ⟨t2, a1, b1⟩ := kk r u t T'.heap (locs ++ L) e1.symm (by rw [← e2]; exact X'.warmed.alike) hp hb k1 k2 k3 T' rfl X'
    exact ⟨t2, st t2 a1, b1⟩
  · obtain ⟨k1, k2, k3⟩ := vx_keep h0 e1 hS hAX hf hL hF
    obtain ⟨t2, a1, b1⟩ := kx E ce q u t T'.heap (locs ++ L) e1.symm (by rw [← e2]; exact X'.warmed.alike) hp hb k1 k2 k3 (by rw [e1]; exact hce) hcv hcl T' rfl X'
    exact ⟨t2, st.trans a1, b1⟩
end
/-! ===== END ===== -/
/-! ===== BEGIN .. by an interface, a constant ===== -/
section
variable {p : Program} {l : Launch} {e : Env} {R : Room} {s : State} {m : MethodId} {args : Array Value} {below : List Frame} {meth : Method} {c : Code} {H : Heap} {locs : List Loc} {cells slots : Nat} {Q : State → Prop}
variable {mc ms : Nat} {free : Addr → Prop} {A0 A1 : Nat → Prop} {H0 : Heap} {a : Array Value} {pc : Nat} {ls : Array Slot} {st0 rest : List Value}
theorem vx_callFe {ad : Nat → Nat} {S SX : Type} {post : Option Nat → S → Prop} {px : SX → Prop} {B : S → State → Prop} {BX : String → SX → State → Prop} {AX : Nat → Prop} (hr : vx_Run5 p l e R s m args below meth c H locs cells slots mc ms (F0 m pc ls st0) rest (va_Qe ad post B A1 a) (vx_X px BX AX) free) (hS : va_S A0 H0 H locs) (hA : ∀ q, q < H.size → A1 q → A0 q) (hf : ∀ q, free q → A0 q) (hAX : ∀ q, q < H.size → AX q → A0 q)
    (kx : ∀ (E : String) (ce : Cell) (q9 : Addr) (u : SX) (t : State) (H1 : Heap) (locs1 : List Loc), t.heap = H1 → s.vm.Alike t.vm → px u → BX E u t → H.size ≤ H1.size → (∀ q : Nat, q < H.size → ¬ AX q → H1[q]? = H[q]?) → va_S A0 H0 H1 locs1 → H1[q9]? = some ce → ce.vm = .none → s.vm.findClass E = some ce.cls → vx_W p l e R s m args below meth c H1 locs1 (cells + mc) (slots + ms) Q (F0 m pc ls rest) q9)
    (kk : ∀ (r : Option Nat) (u : S) (t : State) (H1 : Heap) (locs1 : List Loc), t.heap = H1 → s.vm.Alike t.vm → post r u → B u t → H.size ≤ H1.size → (∀ q : Nat, q < H.size → ¬ A1 q → H1[q]? = H[q]?) → va_S A0 H0 H1 locs1 → W p l e R s m args below meth c H1 locs1 (cells + mc) (slots + ms) Q (F0 m (pc + 5) ls (va_re ad r :: rest))) : W p l e R s m args below meth c H locs cells slots Q (F0 m pc ls st0) := by
  intro T hT X
  rcases hr T hT X with ⟨v, st₀, t, T', L, h0, X', hL, e1, e2, ⟨⟨r, u, hv, hp, hb⟩, hF⟩, st⟩ | ⟨q, st₀, t, T', L, E, ce, h0, X', hL, e1, e2, ⟨u, hp, hb, hF⟩, hce, hcv, hcl, st⟩
  · cases hv
    obtain ⟨k1, k2, k3⟩ := vx_keep h0 e1 hS hA hf hL hF
    obtain ⟨t2, a1, b1⟩ := kk r u t T'.heap (locs ++ L) e1.symm (by rw [← e2]; exact X'.warmed.alike) hp hb k1 k2 k3 T' rfl X'
    exact ⟨t2, st t2 a1, b1⟩
  · obtain ⟨k1, k2, k3⟩ := vx_keep h0 e1 hS hAX hf hL hF
    obtain ⟨t2, a1, b1⟩ := kx E ce q u t T'.heap (locs ++ L) e1.symm (by rw [← e2]; exact X'.warmed.alike) hp hb k1 k2 k3 (by rw [e1]; exact hce) hcv hcl T' rfl X'
    exact ⟨t2, st.trans a1, b1⟩
end
/-! ===== END ===== -/
/-! ===== BEGIN what the machine throws by itself: null at a field, at athrow ===== -/
section VXM2
variable {p : Program} {l : Launch} {e : Env} {R : Room} {s : State} {m : MethodId} {args : Array Value} {below : List Frame} {meth : Method} {c : Code} {H : Heap} {locs : List Loc} {cells slots : Nat}
variable {Q : State → Prop} {cc : ByteArray} {pc : Nat} {ls : Array Slot} {rest : List Value}
theorem vx_getfN {D cl tys} {own ref C : String} {T : u_T} {N ci index : Nat} {Ts : List Cond} (hexec : p.tables.exec = Jvm.exec) (hb : c.code = cc) (hts : ∀ w ∈ Ts, w.before args s = true) (hin : ∀ w ∈ u_ws C T N, w ∈ Ts) (hown : s.vm.findClass own = some m.cls) (hK : va_K D cl tys s) (hc : cl[ci]? = some (C, T, N)) (k : Nat) (hk : k < N) (hlink : (Cond.fieldLink own index ref (T k).2.1 (T k).2.2.1).before args s = true) (hsame : ∀ x, s.fieldFound? (T k).1 (T k).2.1 (T k).2.2.1 = some x → s.fieldFound? ref (T k).2.1 (T k).2.2.1 = some x) (hdg : decode cc pc = .ok (.getfield index, 3)) (kk : vx_NoteN p l e R s m args below meth c H locs cells slots Q (F0 m pc ls rest)) : W p l e R s m args below meth c H locs cells slots Q (F0 m pc ls (.null :: rest)) := by
  obtain ⟨hS, hfc, kC, hkC, -⟩ := hK.1 ci _ hc
  obtain ⟨cf, kf, fi, f, hi, -⟩ := hS k hk
  intro U hU X
  obtain ⟨vm', X1, st1⟩ := X.getfieldNull hexec hown hlink (hsame _ hi) (u_facts hfc hkC (u_lays hts hin hk) hi).1 (g := F0 m pc ls (.null :: rest)) rfl (rest := rest) rfl (by rw [hb]; exact hdg)
  obtain ⟨t, st, q⟩ := kk (U.setVm vm') hU X1
  exact ⟨t, st1 t st, q⟩
theorem vx_getfNN {D cl tys} {own ref C host : String} {T : u_T} {N ci index : Nat} {Ts : List Cond} (hexec : p.tables.exec = Jvm.exec) (hb : c.code = cc) (hts : ∀ w ∈ Ts, w.before args s = true) (hin : ∀ w ∈ u_ws C T N, w ∈ Ts) (hown : s.vm.findClass own = some m.cls) (hK : va_K D cl tys s) (hc : cl[ci]? = some (C, T, N)) (k : Nat) (hk : k < N) (hlink : (Cond.fieldLinkNest own index ref (T k).2.1 (T k).2.2.1 host).before args s = true) (hsame : ∀ x, s.fieldFound? (T k).1 (T k).2.1 (T k).2.2.1 = some x → s.fieldFound? ref (T k).2.1 (T k).2.2.1 = some x) (hdg : decode cc pc = .ok (.getfield index, 3)) (kk : vx_NoteN p l e R s m args below meth c H locs cells slots Q (F0 m pc ls rest)) : W p l e R s m args below meth c H locs cells slots Q (F0 m pc ls (.null :: rest)) := by
  obtain ⟨hS, hfc, kC, hkC, -⟩ := hK.1 ci _ hc
  obtain ⟨cf, kf, fi, f, hi, -⟩ := hS k hk
  intro U hU X
  obtain ⟨vm', X1, st1⟩ := X.getfieldNullNest hexec hown hlink (hsame _ hi) (u_facts hfc hkC (u_lays hts hin hk) hi).1 (g := F0 m pc ls (.null :: rest)) rfl (rest := rest) rfl (by rw [hb]; exact hdg)
  obtain ⟨t, st, q⟩ := kk (U.setVm vm') hU X1
  exact ⟨t, st1 t st, q⟩
theorem vx_putfN {D cl tys} {own ref C : String} {T : u_T} {N ci index : Nat} {Ts : List Cond} (hexec : p.tables.exec = Jvm.exec) (hb : c.code = cc) (hts : ∀ w ∈ Ts, w.before args s = true) (hin : ∀ w ∈ u_ws C T N, w ∈ Ts) (hown : s.vm.findClass own = some m.cls) (hK : va_K D cl tys s) (hc : cl[ci]? = some (C, T, N)) (k : Nat) (hk : k < N) (hlink : (Cond.fieldLink own index ref (T k).2.1 (T k).2.2.1).before args s = true) (hsame : ∀ x, s.fieldFound? (T k).1 (T k).2.1 (T k).2.2.1 = some x → s.fieldFound? ref (T k).2.1 (T k).2.2.1 = some x) (hfin : (T k).2.2.2 = false) {v : Value} (hdg : decode cc pc = .ok (.putfield index, 3)) (kk : vx_NoteN p l e R s m args below meth c H locs cells slots Q (F0 m pc ls rest)) : W p l e R s m args below meth c H locs cells slots Q (F0 m pc ls (v :: .null :: rest)) := by
  obtain ⟨hS, hfc, kC, hkC, -⟩ := hK.1 ci _ hc
  obtain ⟨cf, kf, fi, f, hi, -⟩ := hS k hk
  have hlay := hts _ (hin _ (u_in_lay hk))
  unfold u_lay at hlay
  rw [if_neg (by rw [hfin]; decide)] at hlay
  obtain ⟨c9, k9, cf9, kf9, fi9, f9, -, -, hi9, hst9, hnf9, -⟩ := Cond.lays_spec hlay
  cases hi.symm.trans hi9
  intro U hU X
  obtain ⟨vm', X1, st1⟩ := X.putfieldNull hexec hown hlink (hsame _ hi) hst9 hnf9 (g := F0 m pc ls (v :: .null :: rest)) rfl (v := v) (rest := rest) rfl (by rw [hb]; exact hdg)
  obtain ⟨t, st, q⟩ := kk (U.setVm vm') hU X1
  exact ⟨t, st1 t st, q⟩
theorem vx_putfNN {D cl tys} {own ref C host : String} {T : u_T} {N ci index : Nat} {Ts : List Cond} (hexec : p.tables.exec = Jvm.exec) (hb : c.code = cc) (hts : ∀ w ∈ Ts, w.before args s = true) (hin : ∀ w ∈ u_ws C T N, w ∈ Ts) (hown : s.vm.findClass own = some m.cls) (hK : va_K D cl tys s) (hc : cl[ci]? = some (C, T, N)) (k : Nat) (hk : k < N) (hlink : (Cond.fieldLinkNest own index ref (T k).2.1 (T k).2.2.1 host).before args s = true) (hsame : ∀ x, s.fieldFound? (T k).1 (T k).2.1 (T k).2.2.1 = some x → s.fieldFound? ref (T k).2.1 (T k).2.2.1 = some x) (hfin : (T k).2.2.2 = false) {v : Value} (hdg : decode cc pc = .ok (.putfield index, 3)) (kk : vx_NoteN p l e R s m args below meth c H locs cells slots Q (F0 m pc ls rest)) : W p l e R s m args below meth c H locs cells slots Q (F0 m pc ls (v :: .null :: rest)) := by
  obtain ⟨hS, hfc, kC, hkC, -⟩ := hK.1 ci _ hc
  obtain ⟨cf, kf, fi, f, hi, -⟩ := hS k hk
  have hlay := hts _ (hin _ (u_in_lay hk))
  unfold u_lay at hlay
  rw [if_neg (by rw [hfin]; decide)] at hlay
  obtain ⟨c9, k9, cf9, kf9, fi9, f9, -, -, hi9, hst9, hnf9, -⟩ := Cond.lays_spec hlay
  cases hi.symm.trans hi9
  intro U hU X
  obtain ⟨vm', X1, st1⟩ := X.putfieldNullNest hexec hown hlink (hsame _ hi) hst9 hnf9 (g := F0 m pc ls (v :: .null :: rest)) rfl (v := v) (rest := rest) rfl (by rw [hb]; exact hdg)
  obtain ⟨t, st, q⟩ := kk (U.setVm vm') hU X1
  exact ⟨t, st1 t st, q⟩
theorem vx_athrowN (hexec : p.tables.exec = Jvm.exec) (hb : c.code = cc) (hdg : decode cc pc = .ok (.athrow, 1)) (k : vx_NoteN p l e R s m args below meth c H locs cells slots Q (F0 m pc ls rest)) : W p l e R s m args below meth c H locs cells slots Q (F0 m pc ls (.null :: rest)) := by
  intro T hT X
  obtain ⟨t, st, q⟩ := k T hT X
  exact ⟨t, X.athrowNull hexec (g := F0 m pc ls (.null :: rest)) rfl (rest := rest) rfl (by rw [hb]; exact hdg) t st, q⟩
end VXM2
/-! ===== END ===== -/
end
section
/-! ===== an abstract machine over named cells: values, locals, worlds ===== -/
abbrev am_A : Type := Nat × Nat
abbrev am_V : Type := Int32 ⊕ (Int64 ⊕ am_A)
abbrev am_G : Type := List am_A × (am_A → Nat → Option am_A)
abbrev am_I : Type := am_A → Nat → Int32
abbrev am_J : Type := am_A → Nat → Int64
abbrev am_L : Type := List (Option am_V)
abbrev vI (x : Int32) : am_V := .inl x
abbrev vL (x : Int64) : am_V := .inr (.inl x)
abbrev vR (a : am_A) : am_V := .inr (.inr a)
/-- an end: returned (with a value or none), or thrown (1 IllegalArgument, 2 IllegalState, 3 IndexOutOfBounds) -/
abbrev am_O : Type := Option am_V ⊕ Nat
abbrev am_P : Type := am_O → am_G → am_I → am_J → Prop
abbrev am_K : Type := Nat → am_L → List am_V → Nat → Nat → am_G → am_I → am_J → Prop
abbrev am_S : Type := am_K → am_K → am_P → am_L → List am_V → Nat → Nat → am_G → am_I → am_J → Prop
def am_cv (ad : am_A → Nat) : am_V → Value
  | .inl x => .int x
  | .inr (.inl x) => .long x
  | .inr (.inr a) => .ref (ad a)
def am_vk (G : am_G) : am_V → Prop
  | .inr (.inr a) => a ∈ G.1 ∨ a.1 = 36
  | _ => True
def am_lg : am_L → Nat → Option am_V
  | [], _ => none
  | x :: _, 0 => x
  | _ :: r, n + 1 => am_lg r n
def am_lo : Option am_V → Option am_V
  | some (.inr (.inl _)) => none
  | x => x
def am_s1 : am_L → Nat → am_V → am_L
  | [], _, _ => []
  | _ :: r, 0, v => some v :: r
  | x :: r, 1, v => am_lo x :: am_s1 r 0 v
  | x :: r, n + 2, v => x :: am_s1 r (n + 1) v
def am_s2 : am_L → Nat → am_V → am_L
  | [], _, _ => []
  | [_], 0, v => [some v]
  | _ :: _ :: r, 0, v => some v :: none :: r
  | x :: r, 1, v => am_lo x :: am_s2 r 0 v
  | x :: r, n + 2, v => x :: am_s2 r (n + 1) v
def am_cl (ad : am_A → Nat) : Nat → am_L → List (Nat × Value)
  | _, [] => []
  | i, none :: r => am_cl ad (i + 1) r
  | i, some v :: r => (i, am_cv ad v) :: am_cl ad (i + 1) r
theorem am_cl_at (ad : am_A → Nat) : ∀ (ls : am_L) (k : Nat) (q : Nat × Value), q ∈ am_cl ad k ls → ∃ (j : Nat) (v : am_V), am_lg ls j = some v ∧ q = (k + j, am_cv ad v)
  | [], _, _, h => by simp [am_cl] at h
  | none :: r, k, q, h => by
    obtain ⟨j, v, h1, h2⟩ := am_cl_at ad r (k + 1) q h
    exact ⟨j + 1, v, h1, by rw [h2, Nat.add_assoc, Nat.add_comm 1 j]⟩
  | some w :: r, k, q, h => by
    rcases List.mem_cons.mp h with h | h
    · exact ⟨0, w, rfl, h⟩
    · obtain ⟨j, v, h1, h2⟩ := am_cl_at ad r (k + 1) q h
      exact ⟨j + 1, v, h1, by rw [h2, Nat.add_assoc, Nat.add_comm 1 j]⟩
theorem am_cl_in (ad : am_A → Nat) : ∀ (ls : am_L) (k j : Nat) (v : am_V), am_lg ls j = some v → (k + j, am_cv ad v) ∈ am_cl ad k ls
  | [], _, _, _, h => by simp [am_lg] at h
  | none :: r, k, 0, v, h => by simp [am_lg] at h
  | none :: r, k, j + 1, v, h => by
    have := am_cl_in ad r (k + 1) j v h
    rw [show k + (j + 1) = k + 1 + j by omega]
    exact this
  | some w :: r, k, 0, v, h => by
    have e : w = v := Option.some.inj h
    rw [e]
    exact List.mem_cons_self
  | some w :: r, k, j + 1, v, h => by
    have := am_cl_in ad r (k + 1) j v h
    rw [show k + (j + 1) = k + 1 + j by omega]
    exact List.mem_cons_of_mem _ this
theorem am_lo_some {x : Option am_V} {w : am_V} (h : am_lo x = some w) : x = some w ∧ ¬ ∃ z : Int64, w = .inr (.inl z) := by
  rcases x with _ | (x | x | a)
  · simp [am_lo] at h
  · have e : some (.inl x) = some w := h
    cases e
    exact ⟨rfl, fun ⟨z, hz⟩ => by cases hz⟩
  · simp [am_lo] at h
  · have e : some (.inr (.inr a)) = some w := h
    cases e
    exact ⟨rfl, fun ⟨z, hz⟩ => by cases hz⟩
theorem am_s1_get : ∀ (ls : am_L) (i : Nat) (v : am_V) (j : Nat) (w : am_V), am_lg (am_s1 ls i v) j = some w → (j = i ∧ w = v) ∨ (j ≠ i ∧ am_lg ls j = some w ∧ (j + 1 = i → ¬ ∃ z : Int64, w = .inr (.inl z)))
  | [], _, _, _, _, h => by simp [am_s1, am_lg] at h
  | x :: r, 0, v, 0, w, h => Or.inl ⟨rfl, (Option.some.inj h).symm⟩
  | x :: r, 0, v, j + 1, w, h => Or.inr ⟨by omega, h, fun q => by omega⟩
  | x :: r, 1, v, 0, w, h => by
    obtain ⟨h1, h2⟩ := am_lo_some (x := x) h
    exact Or.inr ⟨by omega, h1, fun _ => h2⟩
  | x :: r, 1, v, j + 1, w, h => by
    rcases am_s1_get r 0 v j w h with ⟨h1, h2⟩ | ⟨h1, h2, h3⟩
    · exact Or.inl ⟨by omega, h2⟩
    · exact Or.inr ⟨by omega, h2, fun q => by omega⟩
  | x :: r, i + 2, v, 0, w, h => Or.inr ⟨by omega, h, fun q => by omega⟩
  | x :: r, i + 2, v, j + 1, w, h => by
    rcases am_s1_get r (i + 1) v j w h with ⟨h1, h2⟩ | ⟨h1, h2, h3⟩
    · exact Or.inl ⟨by omega, h2⟩
    · exact Or.inr ⟨by omega, h2, fun q => h3 (by omega)⟩
theorem am_s2_get : ∀ (ls : am_L) (i : Nat) (v : am_V) (j : Nat) (w : am_V), am_lg (am_s2 ls i v) j = some w → (j = i ∧ w = v) ∨ (j ≠ i ∧ j ≠ i + 1 ∧ am_lg ls j = some w ∧ (j + 1 = i → ¬ ∃ z : Int64, w = .inr (.inl z)))
  | [], _, _, _, _, h => by simp [am_s2, am_lg] at h
  | [x], 0, v, 0, w, h => Or.inl ⟨rfl, (Option.some.inj h).symm⟩
  | [x], 0, v, j + 1, w, h => by simp [am_s2, am_lg] at h
  | x :: y :: r, 0, v, 0, w, h => Or.inl ⟨rfl, (Option.some.inj h).symm⟩
  | x :: y :: r, 0, v, 1, w, h => by simp [am_s2, am_lg] at h
  | x :: y :: r, 0, v, j + 2, w, h => Or.inr ⟨by omega, by omega, h, fun q => by omega⟩
  | [x], 1, v, 0, w, h => by
    obtain ⟨h1, h2⟩ := am_lo_some (x := x) h
    exact Or.inr ⟨by omega, by omega, h1, fun _ => h2⟩
  | x :: y :: r, 1, v, 0, w, h => by
    obtain ⟨h1, h2⟩ := am_lo_some (x := x) h
    exact Or.inr ⟨by omega, by omega, h1, fun _ => h2⟩
  | [x], 1, v, j + 1, w, h => by simp [am_s2, am_lg] at h
  | x :: y :: r, 1, v, j + 1, w, h => by
    rcases am_s2_get (y :: r) 0 v j w h with ⟨h1, h2⟩ | ⟨h1, h2, h3, h4⟩
    · exact Or.inl ⟨by omega, h2⟩
    · exact Or.inr ⟨by omega, by omega, h3, fun q => by omega⟩
  | [x], i + 2, v, 0, w, h => Or.inr ⟨by omega, by omega, h, fun q => by omega⟩
  | x :: y :: r, i + 2, v, 0, w, h => Or.inr ⟨by omega, by omega, h, fun q => by omega⟩
  | [x], i + 2, v, j + 1, w, h => by simp [am_s2, am_lg] at h
  | x :: y :: r, i + 2, v, j + 1, w, h => by
    rcases am_s2_get (y :: r) (i + 1) v j w h with ⟨h1, h2⟩ | ⟨h1, h2, h3, h4⟩
    · exact Or.inl ⟨by omega, h2⟩
    · exact Or.inr ⟨by omega, by omega, h3, fun q => h4 (by omega)⟩
theorem am_cat2 {ad : am_A → Nat} {w : am_V} (h : (am_cv ad w).category = 2) : ∃ z : Int64, w = .inr (.inl z) := by
  rcases w with x | x | a
  · cases h
  · exact ⟨x, rfl⟩
  · cases h
theorem am_has1 {ad : am_A → Nat} {LS : Array Slot} {nL i : Nat} {ls : am_L} {v : am_V} (h : lv_has LS nL ((i, am_cv ad v) :: (am_cl ad 0 ls).filter (fun q => !(q.1 == i) && !(q.1 + 1 == i && q.2.category == 2)))) : lv_has LS nL (am_cl ad 0 (am_s1 ls i v)) := by
  refine ⟨h.1, h.2.1, fun q hq => h.2.2 q ?_⟩
  obtain ⟨j, w, h1, rfl⟩ := am_cl_at ad _ 0 q hq
  rcases am_s1_get _ _ _ _ _ h1 with ⟨rfl, rfl⟩ | ⟨n1, n2, n3⟩
  · rw [Nat.zero_add]; exact List.mem_cons_self
  · refine List.mem_cons_of_mem _ (List.mem_filter.mpr ⟨am_cl_in ad ls 0 j w n2, ?_⟩)
    have g1 : ¬ (0 + j = i) := by omega
    have g2 : ¬ (0 + j + 1 = i ∧ (am_cv ad w).category = 2) := fun ⟨q1, q2⟩ => n3 (by omega) (am_cat2 q2)
    simp only [Bool.and_eq_true, Bool.not_eq_true', beq_eq_false_iff_ne, ne_eq, Bool.and_eq_false_iff]
    refine ⟨g1, ?_⟩
    by_cases e : 0 + j + 1 = i
    · exact Or.inr fun q => g2 ⟨e, q⟩
    · exact Or.inl e
theorem am_has2 {ad : am_A → Nat} {LS : Array Slot} {nL i : Nat} {ls : am_L} {v : am_V} (h : lv_has LS nL ((i, am_cv ad v) :: (am_cl ad 0 ls).filter (fun q => !(q.1 == i) && (!(q.1 == i + 1) && !(q.1 + 1 == i && q.2.category == 2))))) : lv_has LS nL (am_cl ad 0 (am_s2 ls i v)) := by
  refine ⟨h.1, h.2.1, fun q hq => h.2.2 q ?_⟩
  obtain ⟨j, w, h1, rfl⟩ := am_cl_at ad _ 0 q hq
  rcases am_s2_get _ _ _ _ _ h1 with ⟨rfl, rfl⟩ | ⟨n1, n0, n2, n3⟩
  · rw [Nat.zero_add]; exact List.mem_cons_self
  · refine List.mem_cons_of_mem _ (List.mem_filter.mpr ⟨am_cl_in ad ls 0 j w n2, ?_⟩)
    have g1 : ¬ (0 + j = i) := by omega
    have g0 : ¬ (0 + j = i + 1) := by omega
    have g2 : ¬ (0 + j + 1 = i ∧ (am_cv ad w).category = 2) := fun ⟨q1, q2⟩ => n3 (by omega) (am_cat2 q2)
    simp only [Bool.and_eq_true, Bool.not_eq_true', beq_eq_false_iff_ne, ne_eq, Bool.and_eq_false_iff]
    refine ⟨g1, g0, ?_⟩
    by_cases e : 0 + j + 1 = i
    · exact Or.inr fun q => g2 ⟨e, q⟩
    · exact Or.inl e
theorem am_lat {ad : am_A → Nat} {LS : Array Slot} {nL i : Nat} {ls : am_L} {v : am_V} (h : lv_has LS nL (am_cl ad 0 ls)) (hv : am_lg ls i = some v) : LS[i]? = some (.val (am_cv ad v)) := by
  have := h.2.2 _ (am_cl_in ad ls 0 i v hv)
  rwa [Nat.zero_add] at this
/-- what a method's tables say, and what of them lives on in each later state -/
theorem am_sv_warm {w : Jvm.Cond} {a a' : Array Value} {s U : State} (h : am_sv w = true) (hW : s.WarmedH U.vm) (hb : w.before a s = true) : w.before a' U = true := by
  cases w <;> first
    | exact va_Nw.use rfl (va_Nw.warmF hW (va_Nw.of rfl hb))
    | exact va_Nw.use rfl (va_Nw.warmM hW (va_Nw.of rfl hb))
    | exact va_Nw.use rfl (va_Nw.warmC hW (va_Nw.of rfl hb))
    | exact va_Nw.use rfl (va_Nw.warmD hW (va_Nw.of rfl hb))
    | exact word_at hW (good_of_word h) hb
def am_Wd (U : State) : Prop := (∀ w ∈ am_tb, w.before #[] U = true) ∧ va_AO "TablePager$Table" U ∧ (∀ q ∈ am_str, ∃ a, vk_R q.1 q.2.1 q.2.2 a U) ∧ ∀ q ∈ am_nc, va_Nc q.1 q.2 U
theorem am_Wd.warm {s U : State} (hW : s.WarmedH U.vm) (h : am_Wd s) : am_Wd U :=
  ⟨fun w hw => am_sv_warm (List.mem_filter.mp hw).2 hW (h.1 w hw), va_AO.moved hW.alike h.2.1, fun q hq => by
    obtain ⟨a, ha⟩ := h.2.2.1 q hq
    exact ⟨a, vk_R.warm hW ha⟩, fun q hq => va_Nc.moved hW.alike (h.2.2.2 q hq)⟩
theorem am_Wd.use {U : State} (h : am_Wd U) {w : Jvm.Cond} (hw : w ∈ am_tb) (a : Array Value) : w.before a U = true := am_sv_warm (List.mem_filter.mp hw).2 (State.WarmedH.refl U) (h.1 w hw)
/-- a cell of the world -/
def am_ce (ad : am_A → Nat) (cT : Nat → ClassId) (G : am_G) (I : am_I) (J : am_J) (a : am_A) : va_E :=
  if a.1 < 10 then .inr (a.1, (List.range (am_cn a.1)).map fun k => if am_fk a.1 k = 2 then va_rf ((G.2 a k).map ad) else .int (I a k))
  else if am_at a.1 = 3 then .inl (cT 3, (am_an a.1, .inr (.inl (J a))))
  else if am_at a.1 = 4 then .inl (cT 4, (am_an a.1, .inr (.inr (.inr (.inr (fun k => (G.2 a k).map ad))))))
  else .inl (cT (am_at a.1), (am_an a.1, .inl (I a)))
def am_ww (ad : am_A → Nat) (cT : Nat → ClassId) (G : am_G) (I : am_I) (J : am_J) : va_W := G.1.map fun a => (ad a, am_ce ad cT G I J a)
def am_wf (G : am_G) : Prop := (∀ a ∈ G.1, a.1 < 36) ∧ ∀ a ∈ G.1, ∀ (k : Nat) (b : am_A), G.2 a k = some b → b ∈ G.1
def am_tys (cT : Nat → ClassId) : List (ClassId × FieldType) := [(cT 0, .int), (cT 1, .boolean), (cT 2, .char), (cT 3, .long), (cT 4, .object "TablePager$Table")]
/-- the later names go on from the earlier ones -/
def am_xt (ad0 : am_A → Nat) (G0 : am_G) (ad : am_A → Nat) (G : am_G) : Prop := (∀ a ∈ G0.1, a ∈ G.1 ∧ ad a = ad0 a) ∧ ∀ a : am_A, a.1 = 36 → ad a = ad0 a
/-- the script, which only the law and its draw read -/
def am_scy (y : Nat) : Bool := Nat.beq y am_law || Nat.beq y y_L_draw
def am_scr (sc : Nat × (Nat → Int32)) (ad : am_A → Nat) (A : Nat → Prop) (s : State) : Prop := va_X (ad (36, 0)) sc.1 sc.2 s s.heap ∧ ad (36, 0) < s.heap.size ∧ ¬ A (ad (36, 0))
def am_M (sc : Nat × (Nat → Int32)) (y : Nat) (ad0 : am_A → Nat) (G0 : am_G) (ad : am_A → Nat) (cT : Nat → ClassId) (D : va_G) (A : Nat → Prop) (s : State) (H : Heap) (locs : List Loc) (LS : Array Slot) (ls : am_L) (st : List am_V) (G : am_G) (I : am_I) (J : am_J) : Prop :=
  lv_has LS (am_mL y) (am_cl ad 0 ls) ∧ va_P D am_cls (am_ww ad cT G I J) H ∧ va_D A (am_ww ad cT G I J) ∧ va_S A s.heap H locs ∧ am_wf G ∧ (∀ v ∈ st, am_vk G v) ∧ (∀ (i : Nat) (v : am_V), am_lg ls i = some v → am_vk G v) ∧ (am_scy y = true → am_scr sc ad A s) ∧ am_xt ad0 G0 ad G
/-- an end's value and world -/
def am_N (D : va_G) (cT : Nat → ClassId) (A : Nat → Prop) (ad0 : am_A → Nat) (G0 : am_G) (ad : am_A → Nat) (G : am_G) (I : am_I) (J : am_J) (t : State) : Prop :=
  va_P D am_cls (am_ww ad cT G I J) t.heap ∧ va_D A (am_ww ad cT G I J) ∧ am_wf G ∧ am_xt ad0 G0 ad G
def am_en : Nat → String
  | 1 => "java/lang/IllegalArgumentException"
  | 2 => "java/lang/IllegalStateException"
  | _ => "java/lang/IndexOutOfBoundsException"
def am_Qc (D : va_G) (cT : Nat → ClassId) (A : Nat → Prop) (ad0 : am_A → Nat) (G0 : am_G) (P : am_P) : Array Value → State → Outcome → State → Prop := fun _ st o t =>
  (∃ (v : Option am_V) (G : am_G) (I : am_I) (J : am_J) (ad : am_A → Nat), o = .returned (v.map (am_cv ad)) ∧ P (.inl v) G I J ∧ (∀ w, v = some w → am_vk G w) ∧ am_N D cT A ad0 G0 ad G I J t) ∧ va_F A st t
def am_Xc (D : va_G) (cT : Nat → ClassId) (A : Nat → Prop) (ad0 : am_A → Nat) (G0 : am_G) (P : am_P) : String → State → State → Prop := fun E st t =>
  (∃ (n : Nat) (G : am_G) (I : am_I) (J : am_J) (ad : am_A → Nat), E = am_en n ∧ 1 ≤ n ∧ n ≤ 3 ∧ P (.inr n) G I J ∧ am_N D cT A ad0 G0 ad G I J t) ∧ va_F A st t
/-- what holds while a method runs -/
def am_C (l : Launch) (d y : Nat) (P : am_P) (p : Program) (R : Room) (e : Env) (s : State) (m : MethodId) (args : Array Value) (below : List Frame) (meth : Method) (c : Code) (D : va_G) (cT : Nat → ClassId) (A : Nat → Prop) (ad0 : am_A → Nat) (G0 : am_G) (Q : State → Prop) : Prop :=
  (p.tables.exec = Jvm.exec ∧ c.code = am_mB y ∧ meth.sig.returnType = am_mR y ∧ c.maxLocals = am_mL y ∧ s.vm.findClass (am_mY y).cls = some m.cls ∧ meth.locks = false ∧ meth.name = (am_mY y).name) ∧
  (am_Wd s ∧ va_K D am_cls (am_tys cT) s ∧ (∀ q : Nat, s.heap.size ≤ q → A q) ∧ vx_Zq Bundle.tN "UNASSIGNED_STACK" Bundle.steD A s s.heap ∧ vx_Zq Bundle.tN "SUPPRESSED_SENTINEL" Bundle.listD A s s.heap) ∧
  (l.stackTraces = false ∧ d ≤ R.frames ∧ 35 * d + 15 * (d - 9) ≤ R.locals ∧ am_mc y ≤ R.cells ∧ am_ms y ≤ R.slots) ∧
  (am_mo y ≠ 2 → Q = vx_MQ below (am_Qc D cT A ad0 G0 P) (am_Xc D cT A ad0 G0 P) args s (am_mc y) (am_ms y) A ∧ c.exceptionTable.toList = tableOf (am_mH y)) ∧
  (am_mo y = 2 → (∀ (n : Nat) (G : am_G) (I : am_I) (J : am_J), ¬ P (.inr n) G I J) ∧ ∀ (pc : Nat) (H : Heap) (locs : List Loc) (kc ks : Nat) (LS : Array Slot) (v : am_V) (ad : am_A → Nat) (G : am_G) (I : am_I) (J : am_J), decode (am_mB y) pc = .ok (.ireturn, 1) → (∀ q ∈ locs, A q.base) → kc ≤ am_mc y → ks ≤ am_ms y → P (.inl (some v)) G I J → W p l e R s m args below meth c H locs kc ks Q (F0 m pc LS [am_cv ad v]))
def am_X (l : Launch) (sc : Nat × (Nat → Int32)) (d y : Nat) (P : am_P) : am_K := fun pc ls st kc ks G I J =>
  ∀ (p : Program) (R : Room) (e : Env) (s : State) (m : MethodId) (args : Array Value) (below : List Frame) (meth : Method) (c : Code) (D : va_G) (cT : Nat → ClassId) (A : Nat → Prop) (ad0 : am_A → Nat) (G0 : am_G) (Q : State → Prop) (ad : am_A → Nat) (H : Heap) (locs : List Loc) (LS : Array Slot),
    am_C l d y P p R e s m args below meth c D cT A ad0 G0 Q → am_M sc y ad0 G0 ad cT D A s H locs LS ls st G I J → kc ≤ am_mc y → ks ≤ am_ms y → W p l e R s m args below meth c H locs kc ks Q (F0 m pc LS (st.map (am_cv ad)))
def am_ok (l : Launch) (sc : Nat × (Nat → Int32)) (d y pc : Nat) (σ : am_S) : Prop :=
  ∀ (K X : am_K) (P : am_P) (ls : am_L) (st : List am_V) (kc ks : Nat) (G : am_G) (I : am_I) (J : am_J),
    (∀ pc ls st kc ks G I J, K pc ls st kc ks G I J → am_X l sc d y P pc ls st kc ks G I J) → (∀ pc ls st kc ks G I J, X pc ls st kc ks G I J → am_X l sc d y P pc ls st kc ks G I J) →
    σ K X P ls st kc ks G I J → am_X l sc d y P pc ls st kc ks G I J
section AMM
variable {sc : Nat × (Nat → Int32)} {y : Nat} {ad0 ad : am_A → Nat} {G0 G : am_G} {cT : Nat → ClassId} {D : va_G} {A : Nat → Prop} {s : State} {H : Heap} {locs : List Loc} {LS : Array Slot} {ls : am_L} {st : List am_V} {I : am_I} {J : am_J}
theorem am_M.stk (h : am_M sc y ad0 G0 ad cT D A s H locs LS ls st G I J) {st' : List am_V} (hv : ∀ v ∈ st', am_vk G v) : am_M sc y ad0 G0 ad cT D A s H locs LS ls st' G I J := by
  obtain ⟨h1, h2, h3, h4, h5, h6, h7, h8, h9⟩ := h
  exact ⟨h1, h2, h3, h4, h5, hv, h7, h8, h9⟩
theorem am_M.sok (h : am_M sc y ad0 G0 ad cT D A s H locs LS ls st G I J) : ∀ v ∈ st, am_vk G v := h.2.2.2.2.2.1
theorem am_M.lok (h : am_M sc y ad0 G0 ad cT D A s H locs LS ls st G I J) {i : Nat} {v : am_V} (hv : am_lg ls i = some v) : am_vk G v := h.2.2.2.2.2.2.1 i v hv
theorem am_M.lat (h : am_M sc y ad0 G0 ad cT D A s H locs LS ls st G I J) {i : Nat} {v : am_V} (hv : am_lg ls i = some v) : LS[i]? = some (.val (am_cv ad v)) := am_lat h.1 hv
theorem am_M.st1 (h : am_M sc y ad0 G0 ad cT D A s H locs LS ls st G I J) {i : Nat} {v : am_V} {LS' : Array Slot} {st' : List am_V} (hv : am_vk G v) (hs : ∀ v ∈ st', am_vk G v) (hL : lv_has LS' (am_mL y) ((i, am_cv ad v) :: (am_cl ad 0 ls).filter (fun q => !(q.1 == i) && !(q.1 + 1 == i && q.2.category == 2)))) : am_M sc y ad0 G0 ad cT D A s H locs LS' (am_s1 ls i v) st' G I J := by
  obtain ⟨h1, h2, h3, h4, h5, h6, h7, h8, h9⟩ := h
  refine ⟨am_has1 hL, h2, h3, h4, h5, hs, fun j w hw => ?_, h8, h9⟩
  rcases am_s1_get _ _ _ _ _ hw with ⟨-, rfl⟩ | ⟨-, n2, -⟩
  · exact hv
  · exact h7 j w n2
theorem am_M.st2 (h : am_M sc y ad0 G0 ad cT D A s H locs LS ls st G I J) {i : Nat} {v : am_V} {LS' : Array Slot} {st' : List am_V} (hv : am_vk G v) (hs : ∀ v ∈ st', am_vk G v) (hL : lv_has LS' (am_mL y) ((i, am_cv ad v) :: (am_cl ad 0 ls).filter (fun q => !(q.1 == i) && (!(q.1 == i + 1) && !(q.1 + 1 == i && q.2.category == 2))))) : am_M sc y ad0 G0 ad cT D A s H locs LS' (am_s2 ls i v) st' G I J := by
  obtain ⟨h1, h2, h3, h4, h5, h6, h7, h8, h9⟩ := h
  refine ⟨am_has2 hL, h2, h3, h4, h5, hs, fun j w hw => ?_, h8, h9⟩
  rcases am_s2_get _ _ _ _ _ hw with ⟨-, rfl⟩ | ⟨-, -, n2, -⟩
  · exact hv
  · exact h7 j w n2
end AMM
end
section
/-! written by wip/whole/ops.py: instructions without cells -/
theorem am_off {pc tg : Nat} {o : Int} (h : (pc : Int) + o = (tg : Int)) : (pc : Int) + o = (tg : Int) := h
section AMO
variable {l : Launch} {sc : Nat × (Nat → Int32)} {d y pc : Nat}
def am_push (v : am_V) (nx : Nat) : am_S := fun K X P ls st kc ks G I J => K nx ls (v :: st) kc ks G I J
theorem ok_iconst {n : Int} {v : Int32} (h : decode (am_mB y) pc = .ok (.iconst n, 1)) (hv : Int32.ofInt n = v) : am_ok l sc d y pc (am_push (vI v) (pc + 1)) := by
  intro K X P ls st kc ks G I J hK _ hs
  intro p R e s m args below meth c D cT A ad0 G0 Q ad H locs LS hC hM hc hn
  refine lv_iconst hC.1.1 hC.1.2.1 h hv ?_
  exact hK _ _ _ _ _ _ _ _ hs _ _ _ _ _ _ _ _ _ _ _ _ _ _ _ _ _ _ _ hC (hM.stk (List.forall_mem_cons.mpr ⟨trivial, hM.sok⟩)) hc hn
theorem ok_bipush {n : Int} {v : Int32} (h : decode (am_mB y) pc = .ok (.bipush n, 2)) (hv : (Int8.ofInt n).toInt32 = v) : am_ok l sc d y pc (am_push (vI v) (pc + 2)) := by
  intro K X P ls st kc ks G I J hK _ hs
  intro p R e s m args below meth c D cT A ad0 G0 Q ad H locs LS hC hM hc hn
  refine lv_bipush hC.1.1 hC.1.2.1 h hv ?_
  exact hK _ _ _ _ _ _ _ _ hs _ _ _ _ _ _ _ _ _ _ _ _ _ _ _ _ _ _ _ hC (hM.stk (List.forall_mem_cons.mpr ⟨trivial, hM.sok⟩)) hc hn
theorem ok_sipush {n : Int} {v : Int32} (h : decode (am_mB y) pc = .ok (.sipush n, 3)) (hv : (Int16.ofInt n).toInt32 = v) : am_ok l sc d y pc (am_push (vI v) (pc + 3)) := by
  intro K X P ls st kc ks G I J hK _ hs
  intro p R e s m args below meth c D cT A ad0 G0 Q ad H locs LS hC hM hc hn
  refine lv_sipush hC.1.1 hC.1.2.1 h hv ?_
  exact hK _ _ _ _ _ _ _ _ hs _ _ _ _ _ _ _ _ _ _ _ _ _ _ _ _ _ _ _ hC (hM.stk (List.forall_mem_cons.mpr ⟨trivial, hM.sok⟩)) hc hn
theorem ok_lconst {n : Fin 2} {v : Int64} (h : decode (am_mB y) pc = .ok (.lconst n, 1)) (hv : Int64.ofNat (n : Nat) = v) : am_ok l sc d y pc (am_push (vL v) (pc + 1)) := by
  intro K X P ls st kc ks G I J hK _ hs
  intro p R e s m args below meth c D cT A ad0 G0 Q ad H locs LS hC hM hc hn
  refine lv_lconst hC.1.1 hC.1.2.1 h hv ?_
  exact hK _ _ _ _ _ _ _ _ hs _ _ _ _ _ _ _ _ _ _ _ _ _ _ _ _ _ _ _ hC (hM.stk (List.forall_mem_cons.mpr ⟨trivial, hM.sok⟩)) hc hn
theorem ok_ldc {n : Nat} {v : Int32} (h : decode (am_mB y) pc = .ok (.ldc n, 2)) (hw : Cond.constant (am_mY y).cls n v ∈ am_tb) : am_ok l sc d y pc (am_push (vI v) (pc + 2)) := by
  intro K X P ls st kc ks G I J hK _ hs
  intro p R e s m args below meth c D cT A ad0 G0 Q ad H locs LS hC hM hc hn
  refine lv_ldc hC.1.1 hC.1.2.1 hC.1.2.2.2.2.1 (hC.2.1.1.use hw _) h ?_
  exact hK _ _ _ _ _ _ _ _ hs _ _ _ _ _ _ _ _ _ _ _ _ _ _ _ _ _ _ _ hC (hM.stk (List.forall_mem_cons.mpr ⟨trivial, hM.sok⟩)) hc hn
theorem ok_ldc2 {n : Nat} {v : Int64} (h : decode (am_mB y) pc = .ok (.ldc2_w n, 3)) (hw : Cond.constantLong (am_mY y).cls n v ∈ am_tb) : am_ok l sc d y pc (am_push (vL v) (pc + 3)) := by
  intro K X P ls st kc ks G I J hK _ hs
  intro p R e s m args below meth c D cT A ad0 G0 Q ad H locs LS hC hM hc hn
  refine lv_ldc2 hC.1.1 hC.1.2.1 hC.1.2.2.2.2.1 (hC.2.1.1.use hw _) h ?_
  exact hK _ _ _ _ _ _ _ _ hs _ _ _ _ _ _ _ _ _ _ _ _ _ _ _ _ _ _ _ hC (hM.stk (List.forall_mem_cons.mpr ⟨trivial, hM.sok⟩)) hc hn
def am_iload (i nx : Nat) : am_S := fun K X P ls st kc ks G I J => match am_lg ls i with
  | some (.inl x) => K nx ls ((.inl x) :: st) kc ks G I J
  | _ => False
theorem ok_iload_n {k : Fin 4} {i : Nat} (h : decode (am_mB y) pc = .ok (.iload_n k, 1)) (hi : (k : Nat) = i) : am_ok l sc d y pc (am_iload i (pc + 1)) := by
  intro K X P ls st kc ks G I J hK _ hs
  unfold am_iload at hs
  split at hs
  · rename_i x hg
    intro p R e s m args below meth c D cT A ad0 G0 Q ad H locs LS hC hM hc hn
    refine lv_iload_n hC.1.1 hC.1.2.1 h hi (hM.lat hg) ?_
    exact hK _ _ _ _ _ _ _ _ hs _ _ _ _ _ _ _ _ _ _ _ _ _ _ _ _ _ _ _ hC (hM.stk (List.forall_mem_cons.mpr ⟨hM.lok hg, hM.sok⟩)) hc hn
  · exact hs.elim
theorem ok_iload {i : Nat} (h : decode (am_mB y) pc = .ok (.iload i, 2)) : am_ok l sc d y pc (am_iload i (pc + 2)) := by
  intro K X P ls st kc ks G I J hK _ hs
  unfold am_iload at hs
  split at hs
  · rename_i x hg
    intro p R e s m args below meth c D cT A ad0 G0 Q ad H locs LS hC hM hc hn
    refine lv_iload hC.1.1 hC.1.2.1 h (hM.lat hg) ?_
    exact hK _ _ _ _ _ _ _ _ hs _ _ _ _ _ _ _ _ _ _ _ _ _ _ _ _ _ _ _ hC (hM.stk (List.forall_mem_cons.mpr ⟨hM.lok hg, hM.sok⟩)) hc hn
  · exact hs.elim
def am_lload (i nx : Nat) : am_S := fun K X P ls st kc ks G I J => match am_lg ls i with
  | some (.inr (.inl x)) => K nx ls ((.inr (.inl x)) :: st) kc ks G I J
  | _ => False
theorem ok_lload_n {k : Fin 4} {i : Nat} (h : decode (am_mB y) pc = .ok (.lload_n k, 1)) (hi : (k : Nat) = i) : am_ok l sc d y pc (am_lload i (pc + 1)) := by
  intro K X P ls st kc ks G I J hK _ hs
  unfold am_lload at hs
  split at hs
  · rename_i x hg
    intro p R e s m args below meth c D cT A ad0 G0 Q ad H locs LS hC hM hc hn
    refine lv_lload_n hC.1.1 hC.1.2.1 h hi (hM.lat hg) ?_
    exact hK _ _ _ _ _ _ _ _ hs _ _ _ _ _ _ _ _ _ _ _ _ _ _ _ _ _ _ _ hC (hM.stk (List.forall_mem_cons.mpr ⟨hM.lok hg, hM.sok⟩)) hc hn
  · exact hs.elim
theorem ok_lload {i : Nat} (h : decode (am_mB y) pc = .ok (.lload i, 2)) : am_ok l sc d y pc (am_lload i (pc + 2)) := by
  intro K X P ls st kc ks G I J hK _ hs
  unfold am_lload at hs
  split at hs
  · rename_i x hg
    intro p R e s m args below meth c D cT A ad0 G0 Q ad H locs LS hC hM hc hn
    refine lv_lload hC.1.1 hC.1.2.1 h (hM.lat hg) ?_
    exact hK _ _ _ _ _ _ _ _ hs _ _ _ _ _ _ _ _ _ _ _ _ _ _ _ _ _ _ _ hC (hM.stk (List.forall_mem_cons.mpr ⟨hM.lok hg, hM.sok⟩)) hc hn
  · exact hs.elim
def am_aload (i nx : Nat) : am_S := fun K X P ls st kc ks G I J => match am_lg ls i with
  | some (.inr (.inr x)) => K nx ls ((.inr (.inr x)) :: st) kc ks G I J
  | _ => False
theorem ok_aload_n {k : Fin 4} {i : Nat} (h : decode (am_mB y) pc = .ok (.aload_n k, 1)) (hi : (k : Nat) = i) : am_ok l sc d y pc (am_aload i (pc + 1)) := by
  intro K X P ls st kc ks G I J hK _ hs
  unfold am_aload at hs
  split at hs
  · rename_i x hg
    intro p R e s m args below meth c D cT A ad0 G0 Q ad H locs LS hC hM hc hn
    refine lv_aload_n hC.1.1 hC.1.2.1 h hi (hM.lat hg) ?_
    exact hK _ _ _ _ _ _ _ _ hs _ _ _ _ _ _ _ _ _ _ _ _ _ _ _ _ _ _ _ hC (hM.stk (List.forall_mem_cons.mpr ⟨hM.lok hg, hM.sok⟩)) hc hn
  · exact hs.elim
theorem ok_aload {i : Nat} (h : decode (am_mB y) pc = .ok (.aload i, 2)) : am_ok l sc d y pc (am_aload i (pc + 2)) := by
  intro K X P ls st kc ks G I J hK _ hs
  unfold am_aload at hs
  split at hs
  · rename_i x hg
    intro p R e s m args below meth c D cT A ad0 G0 Q ad H locs LS hC hM hc hn
    refine lv_aload hC.1.1 hC.1.2.1 h (hM.lat hg) ?_
    exact hK _ _ _ _ _ _ _ _ hs _ _ _ _ _ _ _ _ _ _ _ _ _ _ _ _ _ _ _ hC (hM.stk (List.forall_mem_cons.mpr ⟨hM.lok hg, hM.sok⟩)) hc hn
  · exact hs.elim
def am_istore (i nx : Nat) : am_S := fun K X P ls st kc ks G I J => match st with
  | (.inl x) :: r => K nx (am_s1 ls i (.inl x)) r kc ks G I J
  | _ => False
theorem ok_istore_n {k : Fin 4} {i : Nat} (h : decode (am_mB y) pc = .ok (.istore_n k, 1)) (hi : (k : Nat) = i) (hn0 : i < am_mL y) : am_ok l sc d y pc (am_istore i (pc + 1)) := by
  intro K X P ls st kc ks G I J hK _ hs
  unfold am_istore at hs
  split at hs
  · rename_i x r
    intro p R e s m args below meth c D cT A ad0 G0 Q ad H locs LS hC hM hc hn
    have hv := hM.sok
    simp only [List.forall_mem_cons] at hv
    refine lv_istore_n hC.1.1 hC.1.2.1 h hi hM.1 hn0 rfl (fun LS' hL => ?_)
    exact hK _ _ _ _ _ _ _ _ hs _ _ _ _ _ _ _ _ _ _ _ _ _ _ _ _ _ _ _ hC (hM.st1 hv.1 hv.2 hL) hc hn
  · exact hs.elim
theorem ok_istore {i : Nat} (h : decode (am_mB y) pc = .ok (.istore i, 2)) (hn0 : i < am_mL y) : am_ok l sc d y pc (am_istore i (pc + 2)) := by
  intro K X P ls st kc ks G I J hK _ hs
  unfold am_istore at hs
  split at hs
  · rename_i x r
    intro p R e s m args below meth c D cT A ad0 G0 Q ad H locs LS hC hM hc hn
    have hv := hM.sok
    simp only [List.forall_mem_cons] at hv
    refine lv_istore hC.1.1 hC.1.2.1 h hM.1 hn0 rfl (fun LS' hL => ?_)
    exact hK _ _ _ _ _ _ _ _ hs _ _ _ _ _ _ _ _ _ _ _ _ _ _ _ _ _ _ _ hC (hM.st1 hv.1 hv.2 hL) hc hn
  · exact hs.elim
def am_lstore (i nx : Nat) : am_S := fun K X P ls st kc ks G I J => match st with
  | (.inr (.inl x)) :: r => K nx (am_s2 ls i (.inr (.inl x))) r kc ks G I J
  | _ => False
theorem ok_lstore_n {k : Fin 4} {i : Nat} (h : decode (am_mB y) pc = .ok (.lstore_n k, 1)) (hi : (k : Nat) = i) (hn0 : i + 1 < am_mL y) : am_ok l sc d y pc (am_lstore i (pc + 1)) := by
  intro K X P ls st kc ks G I J hK _ hs
  unfold am_lstore at hs
  split at hs
  · rename_i x r
    intro p R e s m args below meth c D cT A ad0 G0 Q ad H locs LS hC hM hc hn
    have hv := hM.sok
    simp only [List.forall_mem_cons] at hv
    refine lv_lstore_n hC.1.1 hC.1.2.1 h hi hM.1 hn0 rfl (fun LS' hL => ?_)
    exact hK _ _ _ _ _ _ _ _ hs _ _ _ _ _ _ _ _ _ _ _ _ _ _ _ _ _ _ _ hC (hM.st2 hv.1 hv.2 hL) hc hn
  · exact hs.elim
theorem ok_lstore {i : Nat} (h : decode (am_mB y) pc = .ok (.lstore i, 2)) (hn0 : i + 1 < am_mL y) : am_ok l sc d y pc (am_lstore i (pc + 2)) := by
  intro K X P ls st kc ks G I J hK _ hs
  unfold am_lstore at hs
  split at hs
  · rename_i x r
    intro p R e s m args below meth c D cT A ad0 G0 Q ad H locs LS hC hM hc hn
    have hv := hM.sok
    simp only [List.forall_mem_cons] at hv
    refine lv_lstore hC.1.1 hC.1.2.1 h hM.1 hn0 rfl (fun LS' hL => ?_)
    exact hK _ _ _ _ _ _ _ _ hs _ _ _ _ _ _ _ _ _ _ _ _ _ _ _ _ _ _ _ hC (hM.st2 hv.1 hv.2 hL) hc hn
  · exact hs.elim
def am_astore (i nx : Nat) : am_S := fun K X P ls st kc ks G I J => match st with
  | (.inr (.inr x)) :: r => K nx (am_s1 ls i (.inr (.inr x))) r kc ks G I J
  | _ => False
theorem ok_astore_n {k : Fin 4} {i : Nat} (h : decode (am_mB y) pc = .ok (.astore_n k, 1)) (hi : (k : Nat) = i) (hn0 : i < am_mL y) : am_ok l sc d y pc (am_astore i (pc + 1)) := by
  intro K X P ls st kc ks G I J hK _ hs
  unfold am_astore at hs
  split at hs
  · rename_i x r
    intro p R e s m args below meth c D cT A ad0 G0 Q ad H locs LS hC hM hc hn
    have hv := hM.sok
    simp only [List.forall_mem_cons] at hv
    refine lv_astore_n hC.1.1 hC.1.2.1 h hi hM.1 hn0 rfl (fun LS' hL => ?_)
    exact hK _ _ _ _ _ _ _ _ hs _ _ _ _ _ _ _ _ _ _ _ _ _ _ _ _ _ _ _ hC (hM.st1 hv.1 hv.2 hL) hc hn
  · exact hs.elim
theorem ok_astore {i : Nat} (h : decode (am_mB y) pc = .ok (.astore i, 2)) (hn0 : i < am_mL y) : am_ok l sc d y pc (am_astore i (pc + 2)) := by
  intro K X P ls st kc ks G I J hK _ hs
  unfold am_astore at hs
  split at hs
  · rename_i x r
    intro p R e s m args below meth c D cT A ad0 G0 Q ad H locs LS hC hM hc hn
    have hv := hM.sok
    simp only [List.forall_mem_cons] at hv
    refine lv_astore hC.1.1 hC.1.2.1 h hM.1 hn0 rfl (fun LS' hL => ?_)
    exact hK _ _ _ _ _ _ _ _ hs _ _ _ _ _ _ _ _ _ _ _ _ _ _ _ _ _ _ _ hC (hM.st1 hv.1 hv.2 hL) hc hn
  · exact hs.elim
def am_iinc (i : Nat) (n : Int32) (nx : Nat) : am_S := fun K X P ls st kc ks G I J => match am_lg ls i with
  | some (.inl x) => K nx (am_s1 ls i (.inl (x + n))) st kc ks G I J
  | _ => False
theorem ok_iinc {i : Nat} {n : Int} {v : Int32} (h : decode (am_mB y) pc = .ok (.iinc i n, 3)) (hv : Int32.ofInt n = v) (hn0 : i < am_mL y) : am_ok l sc d y pc (am_iinc i v (pc + 3)) := by
  subst hv
  intro K X P ls st kc ks G I J hK _ hs
  unfold am_iinc at hs
  split at hs
  · rename_i x hg
    intro p R e s m args below meth c D cT A ad0 G0 Q ad H locs LS hC hM hc hn
    have hin := am_cl_in ad ls 0 i _ hg
    obtain ⟨k, hk⟩ := List.getElem?_of_mem hin
    rw [Nat.zero_add] at hk
    refine lv_iinc (k := k) hC.1.1 hC.1.2.1 h hM.1 hk rfl hn0 rfl (fun LS' hL => ?_)
    exact hK _ _ _ _ _ _ _ _ hs _ _ _ _ _ _ _ _ _ _ _ _ _ _ _ _ _ _ _ hC (hM.st1 trivial hM.sok hL) hc hn
  · exact hs.elim
def am_iadd (nx : Nat) : am_S := fun K X P ls st kc ks G I J => match st with
  | (.inl b) :: (.inl a) :: r => K nx ls ((.inl (a + b)) :: r) kc ks G I J
  | _ => False
theorem ok_iadd  (h : decode (am_mB y) pc = .ok (.iadd, 1)) : am_ok l sc d y pc (am_iadd (pc + 1)) := by
  intro K X P ls st kc ks G I J hK _ hs
  unfold am_iadd at hs
  split at hs
  · rename_i b a r
    intro p R e s m args below meth c D cT A ad0 G0 Q ad H locs LS hC hM hc hn
    have hx := hC.1.1
    have hb := hC.1.2.1
    have hv := hM.sok
    refine lv_iadd hx hb h ?_
    exact hK _ _ _ _ _ _ _ _ hs _ _ _ _ _ _ _ _ _ _ _ _ _ _ _ _ _ _ _ hC (hM.stk (by simp only [List.forall_mem_cons] at hv ⊢; exact ⟨trivial, hv.2.2⟩)) hc hn
  · exact hs.elim
def am_isub (nx : Nat) : am_S := fun K X P ls st kc ks G I J => match st with
  | (.inl b) :: (.inl a) :: r => K nx ls ((.inl (a - b)) :: r) kc ks G I J
  | _ => False
theorem ok_isub  (h : decode (am_mB y) pc = .ok (.isub, 1)) : am_ok l sc d y pc (am_isub (pc + 1)) := by
  intro K X P ls st kc ks G I J hK _ hs
  unfold am_isub at hs
  split at hs
  · rename_i b a r
    intro p R e s m args below meth c D cT A ad0 G0 Q ad H locs LS hC hM hc hn
    have hx := hC.1.1
    have hb := hC.1.2.1
    have hv := hM.sok
    refine lv_isub hx hb h ?_
    exact hK _ _ _ _ _ _ _ _ hs _ _ _ _ _ _ _ _ _ _ _ _ _ _ _ _ _ _ _ hC (hM.stk (by simp only [List.forall_mem_cons] at hv ⊢; exact ⟨trivial, hv.2.2⟩)) hc hn
  · exact hs.elim
def am_imul (nx : Nat) : am_S := fun K X P ls st kc ks G I J => match st with
  | (.inl b) :: (.inl a) :: r => K nx ls ((.inl (a * b)) :: r) kc ks G I J
  | _ => False
theorem ok_imul  (h : decode (am_mB y) pc = .ok (.imul, 1)) : am_ok l sc d y pc (am_imul (pc + 1)) := by
  intro K X P ls st kc ks G I J hK _ hs
  unfold am_imul at hs
  split at hs
  · rename_i b a r
    intro p R e s m args below meth c D cT A ad0 G0 Q ad H locs LS hC hM hc hn
    have hx := hC.1.1
    have hb := hC.1.2.1
    have hv := hM.sok
    refine lv_imul hx hb h ?_
    exact hK _ _ _ _ _ _ _ _ hs _ _ _ _ _ _ _ _ _ _ _ _ _ _ _ _ _ _ _ hC (hM.stk (by simp only [List.forall_mem_cons] at hv ⊢; exact ⟨trivial, hv.2.2⟩)) hc hn
  · exact hs.elim
def am_iand (nx : Nat) : am_S := fun K X P ls st kc ks G I J => match st with
  | (.inl b) :: (.inl a) :: r => K nx ls ((.inl (a &&& b)) :: r) kc ks G I J
  | _ => False
theorem ok_iand  (h : decode (am_mB y) pc = .ok (.iand, 1)) : am_ok l sc d y pc (am_iand (pc + 1)) := by
  intro K X P ls st kc ks G I J hK _ hs
  unfold am_iand at hs
  split at hs
  · rename_i b a r
    intro p R e s m args below meth c D cT A ad0 G0 Q ad H locs LS hC hM hc hn
    have hx := hC.1.1
    have hb := hC.1.2.1
    have hv := hM.sok
    refine lv_iand hx hb h ?_
    exact hK _ _ _ _ _ _ _ _ hs _ _ _ _ _ _ _ _ _ _ _ _ _ _ _ _ _ _ _ hC (hM.stk (by simp only [List.forall_mem_cons] at hv ⊢; exact ⟨trivial, hv.2.2⟩)) hc hn
  · exact hs.elim
def am_ior (nx : Nat) : am_S := fun K X P ls st kc ks G I J => match st with
  | (.inl b) :: (.inl a) :: r => K nx ls ((.inl (a ||| b)) :: r) kc ks G I J
  | _ => False
theorem ok_ior  (h : decode (am_mB y) pc = .ok (.ior, 1)) : am_ok l sc d y pc (am_ior (pc + 1)) := by
  intro K X P ls st kc ks G I J hK _ hs
  unfold am_ior at hs
  split at hs
  · rename_i b a r
    intro p R e s m args below meth c D cT A ad0 G0 Q ad H locs LS hC hM hc hn
    have hx := hC.1.1
    have hb := hC.1.2.1
    have hv := hM.sok
    refine lv_ior hx hb h ?_
    exact hK _ _ _ _ _ _ _ _ hs _ _ _ _ _ _ _ _ _ _ _ _ _ _ _ _ _ _ _ hC (hM.stk (by simp only [List.forall_mem_cons] at hv ⊢; exact ⟨trivial, hv.2.2⟩)) hc hn
  · exact hs.elim
def am_ixor (nx : Nat) : am_S := fun K X P ls st kc ks G I J => match st with
  | (.inl b) :: (.inl a) :: r => K nx ls ((.inl (a ^^^ b)) :: r) kc ks G I J
  | _ => False
theorem ok_ixor  (h : decode (am_mB y) pc = .ok (.ixor, 1)) : am_ok l sc d y pc (am_ixor (pc + 1)) := by
  intro K X P ls st kc ks G I J hK _ hs
  unfold am_ixor at hs
  split at hs
  · rename_i b a r
    intro p R e s m args below meth c D cT A ad0 G0 Q ad H locs LS hC hM hc hn
    have hx := hC.1.1
    have hb := hC.1.2.1
    have hv := hM.sok
    refine lv_ixor hx hb h ?_
    exact hK _ _ _ _ _ _ _ _ hs _ _ _ _ _ _ _ _ _ _ _ _ _ _ _ _ _ _ _ hC (hM.stk (by simp only [List.forall_mem_cons] at hv ⊢; exact ⟨trivial, hv.2.2⟩)) hc hn
  · exact hs.elim
def am_ishl (nx : Nat) : am_S := fun K X P ls st kc ks G I J => match st with
  | (.inl b) :: (.inl a) :: r => K nx ls ((.inl (a <<< (b &&& 31))) :: r) kc ks G I J
  | _ => False
theorem ok_ishl  (h : decode (am_mB y) pc = .ok (.ishl, 1)) : am_ok l sc d y pc (am_ishl (pc + 1)) := by
  intro K X P ls st kc ks G I J hK _ hs
  unfold am_ishl at hs
  split at hs
  · rename_i b a r
    intro p R e s m args below meth c D cT A ad0 G0 Q ad H locs LS hC hM hc hn
    have hx := hC.1.1
    have hb := hC.1.2.1
    have hv := hM.sok
    refine lv_ishl hx hb h ?_
    exact hK _ _ _ _ _ _ _ _ hs _ _ _ _ _ _ _ _ _ _ _ _ _ _ _ _ _ _ _ hC (hM.stk (by simp only [List.forall_mem_cons] at hv ⊢; exact ⟨trivial, hv.2.2⟩)) hc hn
  · exact hs.elim
def am_ishr (nx : Nat) : am_S := fun K X P ls st kc ks G I J => match st with
  | (.inl b) :: (.inl a) :: r => K nx ls ((.inl (a >>> (b &&& 31))) :: r) kc ks G I J
  | _ => False
theorem ok_ishr  (h : decode (am_mB y) pc = .ok (.ishr, 1)) : am_ok l sc d y pc (am_ishr (pc + 1)) := by
  intro K X P ls st kc ks G I J hK _ hs
  unfold am_ishr at hs
  split at hs
  · rename_i b a r
    intro p R e s m args below meth c D cT A ad0 G0 Q ad H locs LS hC hM hc hn
    have hx := hC.1.1
    have hb := hC.1.2.1
    have hv := hM.sok
    refine lv_ishr hx hb h ?_
    exact hK _ _ _ _ _ _ _ _ hs _ _ _ _ _ _ _ _ _ _ _ _ _ _ _ _ _ _ _ hC (hM.stk (by simp only [List.forall_mem_cons] at hv ⊢; exact ⟨trivial, hv.2.2⟩)) hc hn
  · exact hs.elim
def am_iushr (nx : Nat) : am_S := fun K X P ls st kc ks G I J => match st with
  | (.inl b) :: (.inl a) :: r => K nx ls ((.inl ((a.toUInt32 >>> (b.toUInt32 &&& Int32.toUInt32 31)).toInt32)) :: r) kc ks G I J
  | _ => False
theorem ok_iushr  (h : decode (am_mB y) pc = .ok (.iushr, 1)) : am_ok l sc d y pc (am_iushr (pc + 1)) := by
  intro K X P ls st kc ks G I J hK _ hs
  unfold am_iushr at hs
  split at hs
  · rename_i b a r
    intro p R e s m args below meth c D cT A ad0 G0 Q ad H locs LS hC hM hc hn
    have hx := hC.1.1
    have hb := hC.1.2.1
    have hv := hM.sok
    refine lv_iushr hx hb h rfl ?_
    exact hK _ _ _ _ _ _ _ _ hs _ _ _ _ _ _ _ _ _ _ _ _ _ _ _ _ _ _ _ hC (hM.stk (by simp only [List.forall_mem_cons] at hv ⊢; exact ⟨trivial, hv.2.2⟩)) hc hn
  · exact hs.elim
def am_ladd (nx : Nat) : am_S := fun K X P ls st kc ks G I J => match st with
  | (.inr (.inl b)) :: (.inr (.inl a)) :: r => K nx ls ((.inr (.inl (a + b))) :: r) kc ks G I J
  | _ => False
theorem ok_ladd  (h : decode (am_mB y) pc = .ok (.ladd, 1)) : am_ok l sc d y pc (am_ladd (pc + 1)) := by
  intro K X P ls st kc ks G I J hK _ hs
  unfold am_ladd at hs
  split at hs
  · rename_i b a r
    intro p R e s m args below meth c D cT A ad0 G0 Q ad H locs LS hC hM hc hn
    have hx := hC.1.1
    have hb := hC.1.2.1
    have hv := hM.sok
    refine lv_ladd hx hb h ?_
    exact hK _ _ _ _ _ _ _ _ hs _ _ _ _ _ _ _ _ _ _ _ _ _ _ _ _ _ _ _ hC (hM.stk (by simp only [List.forall_mem_cons] at hv ⊢; exact ⟨trivial, hv.2.2⟩)) hc hn
  · exact hs.elim
def am_lsub (nx : Nat) : am_S := fun K X P ls st kc ks G I J => match st with
  | (.inr (.inl b)) :: (.inr (.inl a)) :: r => K nx ls ((.inr (.inl (a - b))) :: r) kc ks G I J
  | _ => False
theorem ok_lsub  (h : decode (am_mB y) pc = .ok (.lsub, 1)) : am_ok l sc d y pc (am_lsub (pc + 1)) := by
  intro K X P ls st kc ks G I J hK _ hs
  unfold am_lsub at hs
  split at hs
  · rename_i b a r
    intro p R e s m args below meth c D cT A ad0 G0 Q ad H locs LS hC hM hc hn
    have hx := hC.1.1
    have hb := hC.1.2.1
    have hv := hM.sok
    refine lv_lsub hx hb h ?_
    exact hK _ _ _ _ _ _ _ _ hs _ _ _ _ _ _ _ _ _ _ _ _ _ _ _ _ _ _ _ hC (hM.stk (by simp only [List.forall_mem_cons] at hv ⊢; exact ⟨trivial, hv.2.2⟩)) hc hn
  · exact hs.elim
def am_lmul (nx : Nat) : am_S := fun K X P ls st kc ks G I J => match st with
  | (.inr (.inl b)) :: (.inr (.inl a)) :: r => K nx ls ((.inr (.inl (a * b))) :: r) kc ks G I J
  | _ => False
theorem ok_lmul  (h : decode (am_mB y) pc = .ok (.lmul, 1)) : am_ok l sc d y pc (am_lmul (pc + 1)) := by
  intro K X P ls st kc ks G I J hK _ hs
  unfold am_lmul at hs
  split at hs
  · rename_i b a r
    intro p R e s m args below meth c D cT A ad0 G0 Q ad H locs LS hC hM hc hn
    have hx := hC.1.1
    have hb := hC.1.2.1
    have hv := hM.sok
    refine lv_lmul hx hb h ?_
    exact hK _ _ _ _ _ _ _ _ hs _ _ _ _ _ _ _ _ _ _ _ _ _ _ _ _ _ _ _ hC (hM.stk (by simp only [List.forall_mem_cons] at hv ⊢; exact ⟨trivial, hv.2.2⟩)) hc hn
  · exact hs.elim
def am_land (nx : Nat) : am_S := fun K X P ls st kc ks G I J => match st with
  | (.inr (.inl b)) :: (.inr (.inl a)) :: r => K nx ls ((.inr (.inl (a &&& b))) :: r) kc ks G I J
  | _ => False
theorem ok_land  (h : decode (am_mB y) pc = .ok (.land, 1)) : am_ok l sc d y pc (am_land (pc + 1)) := by
  intro K X P ls st kc ks G I J hK _ hs
  unfold am_land at hs
  split at hs
  · rename_i b a r
    intro p R e s m args below meth c D cT A ad0 G0 Q ad H locs LS hC hM hc hn
    have hx := hC.1.1
    have hb := hC.1.2.1
    have hv := hM.sok
    refine lv_land hx hb h ?_
    exact hK _ _ _ _ _ _ _ _ hs _ _ _ _ _ _ _ _ _ _ _ _ _ _ _ _ _ _ _ hC (hM.stk (by simp only [List.forall_mem_cons] at hv ⊢; exact ⟨trivial, hv.2.2⟩)) hc hn
  · exact hs.elim
def am_lor (nx : Nat) : am_S := fun K X P ls st kc ks G I J => match st with
  | (.inr (.inl b)) :: (.inr (.inl a)) :: r => K nx ls ((.inr (.inl (a ||| b))) :: r) kc ks G I J
  | _ => False
theorem ok_lor  (h : decode (am_mB y) pc = .ok (.lor, 1)) : am_ok l sc d y pc (am_lor (pc + 1)) := by
  intro K X P ls st kc ks G I J hK _ hs
  unfold am_lor at hs
  split at hs
  · rename_i b a r
    intro p R e s m args below meth c D cT A ad0 G0 Q ad H locs LS hC hM hc hn
    have hx := hC.1.1
    have hb := hC.1.2.1
    have hv := hM.sok
    refine lv_lor hx hb h ?_
    exact hK _ _ _ _ _ _ _ _ hs _ _ _ _ _ _ _ _ _ _ _ _ _ _ _ _ _ _ _ hC (hM.stk (by simp only [List.forall_mem_cons] at hv ⊢; exact ⟨trivial, hv.2.2⟩)) hc hn
  · exact hs.elim
def am_idiv (nx : Nat) : am_S := fun K X P ls st kc ks G I J => match st with
  | (.inl b) :: (.inl a) :: r => ¬ b = 0 ∧ K nx ls ((.inl (a / b)) :: r) kc ks G I J
  | _ => False
theorem ok_idiv  (h : decode (am_mB y) pc = .ok (.idiv, 1)) : am_ok l sc d y pc (am_idiv (pc + 1)) := by
  intro K X P ls st kc ks G I J hK _ hs
  unfold am_idiv at hs
  split at hs
  · rename_i b a r
    intro p R e s m args below meth c D cT A ad0 G0 Q ad H locs LS hC hM hc hn
    have hx := hC.1.1
    have hb := hC.1.2.1
    have hv := hM.sok
    refine lv_idiv hx hb h hs.1 ?_
    exact hK _ _ _ _ _ _ _ _ hs.2 _ _ _ _ _ _ _ _ _ _ _ _ _ _ _ _ _ _ _ hC (hM.stk (by simp only [List.forall_mem_cons] at hv ⊢; exact ⟨trivial, hv.2.2⟩)) hc hn
  · exact hs.elim
def am_irem (nx : Nat) : am_S := fun K X P ls st kc ks G I J => match st with
  | (.inl b) :: (.inl a) :: r => ¬ b = 0 ∧ K nx ls ((.inl (a - a / b * b)) :: r) kc ks G I J
  | _ => False
theorem ok_irem  (h : decode (am_mB y) pc = .ok (.irem, 1)) : am_ok l sc d y pc (am_irem (pc + 1)) := by
  intro K X P ls st kc ks G I J hK _ hs
  unfold am_irem at hs
  split at hs
  · rename_i b a r
    intro p R e s m args below meth c D cT A ad0 G0 Q ad H locs LS hC hM hc hn
    have hx := hC.1.1
    have hb := hC.1.2.1
    have hv := hM.sok
    refine lv_irem hx hb h hs.1 ?_
    exact hK _ _ _ _ _ _ _ _ hs.2 _ _ _ _ _ _ _ _ _ _ _ _ _ _ _ _ _ _ _ hC (hM.stk (by simp only [List.forall_mem_cons] at hv ⊢; exact ⟨trivial, hv.2.2⟩)) hc hn
  · exact hs.elim
def am_ldiv (nx : Nat) : am_S := fun K X P ls st kc ks G I J => match st with
  | (.inr (.inl b)) :: (.inr (.inl a)) :: r => ¬ b = 0 ∧ K nx ls ((.inr (.inl (a / b))) :: r) kc ks G I J
  | _ => False
theorem ok_ldiv  (h : decode (am_mB y) pc = .ok (.ldiv, 1)) : am_ok l sc d y pc (am_ldiv (pc + 1)) := by
  intro K X P ls st kc ks G I J hK _ hs
  unfold am_ldiv at hs
  split at hs
  · rename_i b a r
    intro p R e s m args below meth c D cT A ad0 G0 Q ad H locs LS hC hM hc hn
    have hx := hC.1.1
    have hb := hC.1.2.1
    have hv := hM.sok
    refine lv_ldiv hx hb h hs.1 ?_
    exact hK _ _ _ _ _ _ _ _ hs.2 _ _ _ _ _ _ _ _ _ _ _ _ _ _ _ _ _ _ _ hC (hM.stk (by simp only [List.forall_mem_cons] at hv ⊢; exact ⟨trivial, hv.2.2⟩)) hc hn
  · exact hs.elim
def am_lrem (nx : Nat) : am_S := fun K X P ls st kc ks G I J => match st with
  | (.inr (.inl b)) :: (.inr (.inl a)) :: r => ¬ b = 0 ∧ K nx ls ((.inr (.inl (a - a / b * b))) :: r) kc ks G I J
  | _ => False
theorem ok_lrem  (h : decode (am_mB y) pc = .ok (.lrem, 1)) : am_ok l sc d y pc (am_lrem (pc + 1)) := by
  intro K X P ls st kc ks G I J hK _ hs
  unfold am_lrem at hs
  split at hs
  · rename_i b a r
    intro p R e s m args below meth c D cT A ad0 G0 Q ad H locs LS hC hM hc hn
    have hx := hC.1.1
    have hb := hC.1.2.1
    have hv := hM.sok
    refine lv_lrem hx hb h hs.1 ?_
    exact hK _ _ _ _ _ _ _ _ hs.2 _ _ _ _ _ _ _ _ _ _ _ _ _ _ _ _ _ _ _ hC (hM.stk (by simp only [List.forall_mem_cons] at hv ⊢; exact ⟨trivial, hv.2.2⟩)) hc hn
  · exact hs.elim
def am_lshl (nx : Nat) : am_S := fun K X P ls st kc ks G I J => match st with
  | (.inl b) :: (.inr (.inl a)) :: r => K nx ls ((.inr (.inl (a <<< (b.toInt64 &&& 63)))) :: r) kc ks G I J
  | _ => False
theorem ok_lshl  (h : decode (am_mB y) pc = .ok (.lshl, 1)) : am_ok l sc d y pc (am_lshl (pc + 1)) := by
  intro K X P ls st kc ks G I J hK _ hs
  unfold am_lshl at hs
  split at hs
  · rename_i b a r
    intro p R e s m args below meth c D cT A ad0 G0 Q ad H locs LS hC hM hc hn
    have hx := hC.1.1
    have hb := hC.1.2.1
    have hv := hM.sok
    refine lv_lshl hx hb h rfl ?_
    exact hK _ _ _ _ _ _ _ _ hs _ _ _ _ _ _ _ _ _ _ _ _ _ _ _ _ _ _ _ hC (hM.stk (by simp only [List.forall_mem_cons] at hv ⊢; exact ⟨trivial, hv.2.2⟩)) hc hn
  · exact hs.elim
def am_lushr (nx : Nat) : am_S := fun K X P ls st kc ks G I J => match st with
  | (.inl b) :: (.inr (.inl a)) :: r => K nx ls ((.inr (.inl ((a.toUInt64 >>> (b.toInt64.toUInt64 &&& Int64.toUInt64 63)).toInt64))) :: r) kc ks G I J
  | _ => False
theorem ok_lushr  (h : decode (am_mB y) pc = .ok (.lushr, 1)) : am_ok l sc d y pc (am_lushr (pc + 1)) := by
  intro K X P ls st kc ks G I J hK _ hs
  unfold am_lushr at hs
  split at hs
  · rename_i b a r
    intro p R e s m args below meth c D cT A ad0 G0 Q ad H locs LS hC hM hc hn
    have hx := hC.1.1
    have hb := hC.1.2.1
    have hv := hM.sok
    refine lv_lushr hx hb h rfl ?_
    exact hK _ _ _ _ _ _ _ _ hs _ _ _ _ _ _ _ _ _ _ _ _ _ _ _ _ _ _ _ hC (hM.stk (by simp only [List.forall_mem_cons] at hv ⊢; exact ⟨trivial, hv.2.2⟩)) hc hn
  · exact hs.elim
def am_lshr (nx : Nat) : am_S := fun K X P ls st kc ks G I J => match st with
  | (.inl b) :: (.inr (.inl a)) :: r => K nx ls ((.inr (.inl (a >>> (b.toInt64 &&& 63)))) :: r) kc ks G I J
  | _ => False
theorem ok_lshr  (h : decode (am_mB y) pc = .ok (.lshr, 1)) : am_ok l sc d y pc (am_lshr (pc + 1)) := by
  intro K X P ls st kc ks G I J hK _ hs
  unfold am_lshr at hs
  split at hs
  · rename_i b a r
    intro p R e s m args below meth c D cT A ad0 G0 Q ad H locs LS hC hM hc hn
    have hx := hC.1.1
    have hb := hC.1.2.1
    have hv := hM.sok
    refine lv_lshr hx hb h rfl ?_
    exact hK _ _ _ _ _ _ _ _ hs _ _ _ _ _ _ _ _ _ _ _ _ _ _ _ _ _ _ _ hC (hM.stk (by simp only [List.forall_mem_cons] at hv ⊢; exact ⟨trivial, hv.2.2⟩)) hc hn
  · exact hs.elim
def am_lcmp (nx : Nat) : am_S := fun K X P ls st kc ks G I J => match st with
  | (.inr (.inl b)) :: (.inr (.inl a)) :: r => K nx ls ((.inl (lg_cmp a b)) :: r) kc ks G I J
  | _ => False
theorem ok_lcmp  (h : decode (am_mB y) pc = .ok (.lcmp, 1)) : am_ok l sc d y pc (am_lcmp (pc + 1)) := by
  intro K X P ls st kc ks G I J hK _ hs
  unfold am_lcmp at hs
  split at hs
  · rename_i b a r
    intro p R e s m args below meth c D cT A ad0 G0 Q ad H locs LS hC hM hc hn
    have hx := hC.1.1
    have hb := hC.1.2.1
    have hv := hM.sok
    refine W.lcmp hx hb h ?_
    exact hK _ _ _ _ _ _ _ _ hs _ _ _ _ _ _ _ _ _ _ _ _ _ _ _ _ _ _ _ hC (hM.stk (by simp only [List.forall_mem_cons] at hv ⊢; exact ⟨trivial, hv.2.2⟩)) hc hn
  · exact hs.elim
def am_ineg (nx : Nat) : am_S := fun K X P ls st kc ks G I J => match st with
  | (.inl a) :: r => K nx ls ((.inl (-a)) :: r) kc ks G I J
  | _ => False
theorem ok_ineg  (h : decode (am_mB y) pc = .ok (.ineg, 1)) : am_ok l sc d y pc (am_ineg (pc + 1)) := by
  intro K X P ls st kc ks G I J hK _ hs
  unfold am_ineg at hs
  split at hs
  · rename_i a r
    intro p R e s m args below meth c D cT A ad0 G0 Q ad H locs LS hC hM hc hn
    have hx := hC.1.1
    have hb := hC.1.2.1
    have hv := hM.sok
    refine lv_ineg hx hb h ?_
    exact hK _ _ _ _ _ _ _ _ hs _ _ _ _ _ _ _ _ _ _ _ _ _ _ _ _ _ _ _ hC (hM.stk (by simp only [List.forall_mem_cons] at hv ⊢; exact ⟨trivial, hv.2⟩)) hc hn
  · exact hs.elim
def am_i2l (nx : Nat) : am_S := fun K X P ls st kc ks G I J => match st with
  | (.inl a) :: r => K nx ls ((.inr (.inl (a.toInt64))) :: r) kc ks G I J
  | _ => False
theorem ok_i2l  (h : decode (am_mB y) pc = .ok (.i2l, 1)) : am_ok l sc d y pc (am_i2l (pc + 1)) := by
  intro K X P ls st kc ks G I J hK _ hs
  unfold am_i2l at hs
  split at hs
  · rename_i a r
    intro p R e s m args below meth c D cT A ad0 G0 Q ad H locs LS hC hM hc hn
    have hx := hC.1.1
    have hb := hC.1.2.1
    have hv := hM.sok
    refine lv_i2l hx hb h rfl ?_
    exact hK _ _ _ _ _ _ _ _ hs _ _ _ _ _ _ _ _ _ _ _ _ _ _ _ _ _ _ _ hC (hM.stk (by simp only [List.forall_mem_cons] at hv ⊢; exact ⟨trivial, hv.2⟩)) hc hn
  · exact hs.elim
def am_l2i (nx : Nat) : am_S := fun K X P ls st kc ks G I J => match st with
  | (.inr (.inl a)) :: r => K nx ls ((.inl (a.toInt32)) :: r) kc ks G I J
  | _ => False
theorem ok_l2i  (h : decode (am_mB y) pc = .ok (.l2i, 1)) : am_ok l sc d y pc (am_l2i (pc + 1)) := by
  intro K X P ls st kc ks G I J hK _ hs
  unfold am_l2i at hs
  split at hs
  · rename_i a r
    intro p R e s m args below meth c D cT A ad0 G0 Q ad H locs LS hC hM hc hn
    have hx := hC.1.1
    have hb := hC.1.2.1
    have hv := hM.sok
    refine lv_l2i hx hb h rfl ?_
    exact hK _ _ _ _ _ _ _ _ hs _ _ _ _ _ _ _ _ _ _ _ _ _ _ _ _ _ _ _ hC (hM.stk (by simp only [List.forall_mem_cons] at hv ⊢; exact ⟨trivial, hv.2⟩)) hc hn
  · exact hs.elim
def am_i2c (nx : Nat) : am_S := fun K X P ls st kc ks G I J => match st with
  | (.inl a) :: r => K nx ls ((.inl ((a.toUInt32 % 65536).toInt32)) :: r) kc ks G I J
  | _ => False
theorem ok_i2c  (h : decode (am_mB y) pc = .ok (.i2c, 1)) : am_ok l sc d y pc (am_i2c (pc + 1)) := by
  intro K X P ls st kc ks G I J hK _ hs
  unfold am_i2c at hs
  split at hs
  · rename_i a r
    intro p R e s m args below meth c D cT A ad0 G0 Q ad H locs LS hC hM hc hn
    have hx := hC.1.1
    have hb := hC.1.2.1
    have hv := hM.sok
    refine lv_i2c hx hb h rfl ?_
    exact hK _ _ _ _ _ _ _ _ hs _ _ _ _ _ _ _ _ _ _ _ _ _ _ _ _ _ _ _ hC (hM.stk (by simp only [List.forall_mem_cons] at hv ⊢; exact ⟨trivial, hv.2⟩)) hc hn
  · exact hs.elim
def am_c1 : am_V → Bool
  | .inr (.inl _) => false
  | _ => true
theorem am_c1_cat {ad : am_A → Nat} {v : am_V} (h : am_c1 v = true) : (am_cv ad v).category = 1 := by
  rcases v with x | x | a
  · rfl
  · cases h
  · rfl
def am_dup (nx : Nat) : am_S := fun K X P ls st kc ks G I J => match st with
  | v :: r => am_c1 v = true ∧ K nx ls (v :: v :: r) kc ks G I J
  | _ => False
theorem ok_dup  (h : decode (am_mB y) pc = .ok (.dup, 1)) : am_ok l sc d y pc (am_dup (pc + 1)) := by
  intro K X P ls st kc ks G I J hK _ hs
  unfold am_dup at hs
  split at hs
  · rename_i v r
    intro p R e s m args below meth c D cT A ad0 G0 Q ad H locs LS hC hM hc hn
    have hx := hC.1.1
    have hb := hC.1.2.1
    have hv := hM.sok
    refine lv_dup hx hb h (am_c1_cat hs.1) ?_
    exact hK _ _ _ _ _ _ _ _ hs.2 _ _ _ _ _ _ _ _ _ _ _ _ _ _ _ _ _ _ _ hC (hM.stk (by simp only [List.forall_mem_cons] at hv ⊢; exact ⟨hv.1, hv.1, hv.2⟩)) hc hn
  · exact hs.elim
def am_pop (nx : Nat) : am_S := fun K X P ls st kc ks G I J => match st with
  | v :: r => am_c1 v = true ∧ K nx ls r kc ks G I J
  | _ => False
theorem ok_pop  (h : decode (am_mB y) pc = .ok (.pop, 1)) : am_ok l sc d y pc (am_pop (pc + 1)) := by
  intro K X P ls st kc ks G I J hK _ hs
  unfold am_pop at hs
  split at hs
  · rename_i v r
    intro p R e s m args below meth c D cT A ad0 G0 Q ad H locs LS hC hM hc hn
    have hx := hC.1.1
    have hb := hC.1.2.1
    have hv := hM.sok
    refine lv_pop hx hb h (am_c1_cat hs.1) ?_
    exact hK _ _ _ _ _ _ _ _ hs.2 _ _ _ _ _ _ _ _ _ _ _ _ _ _ _ _ _ _ _ hC (hM.stk (by simp only [List.forall_mem_cons] at hv ⊢; exact hv.2)) hc hn
  · exact hs.elim
def am_dup2 (nx : Nat) : am_S := fun K X P ls st kc ks G I J => match st with
  | v :: u :: r => (am_c1 v = true ∧ am_c1 u = true) ∧ K nx ls (v :: u :: v :: u :: r) kc ks G I J
  | _ => False
theorem ok_dup2  (h : decode (am_mB y) pc = .ok (.dup2, 1)) : am_ok l sc d y pc (am_dup2 (pc + 1)) := by
  intro K X P ls st kc ks G I J hK _ hs
  unfold am_dup2 at hs
  split at hs
  · rename_i v u r
    intro p R e s m args below meth c D cT A ad0 G0 Q ad H locs LS hC hM hc hn
    have hx := hC.1.1
    have hb := hC.1.2.1
    have hv := hM.sok
    refine lv_dup2_11 hx hb h (am_c1_cat hs.1.1) (am_c1_cat hs.1.2) ?_
    exact hK _ _ _ _ _ _ _ _ hs.2 _ _ _ _ _ _ _ _ _ _ _ _ _ _ _ _ _ _ _ hC (hM.stk (by simp only [List.forall_mem_cons] at hv ⊢; exact ⟨hv.1, hv.2.1, hv.1, hv.2.1, hv.2.2⟩)) hc hn
  · exact hs.elim
def am_if_eq (nx tg : Nat) : am_S := fun K X P ls st kc ks G I J => match st with
  | (.inl a) :: r => if a = 0 then K tg ls r kc ks G I J else K nx ls r kc ks G I J
  | _ => False
theorem ok_if_eq {off : Int} {tg : Nat} (h : decode (am_mB y) pc = .ok (.ifCond .eq off, 3)) (ht : (pc : Int) + off = (tg : Int)) : am_ok l sc d y pc (am_if_eq (pc + 3) tg) := by
  intro K X P ls st kc ks G I J hK _ hs
  unfold am_if_eq at hs
  split at hs
  · rename_i a r
    intro p R e s m args below meth c D cT A ad0 G0 Q ad H locs LS hC hM hc hn
    have hv := hM.sok
    simp only [List.forall_mem_cons] at hv
    refine lv_if_eq hC.1.1 hC.1.2.1 h ht (fun q => ?_) (fun q => ?_)
    · rw [if_pos q] at hs
      exact hK _ _ _ _ _ _ _ _ hs _ _ _ _ _ _ _ _ _ _ _ _ _ _ _ _ _ _ _ hC (hM.stk hv.2) hc hn
    · rw [if_neg q] at hs
      exact hK _ _ _ _ _ _ _ _ hs _ _ _ _ _ _ _ _ _ _ _ _ _ _ _ _ _ _ _ hC (hM.stk hv.2) hc hn
  · exact hs.elim
def am_icmp_eq (nx tg : Nat) : am_S := fun K X P ls st kc ks G I J => match st with
  | (.inl b) :: (.inl a) :: r => if a = b then K tg ls r kc ks G I J else K nx ls r kc ks G I J
  | _ => False
theorem ok_icmp_eq {off : Int} {tg : Nat} (h : decode (am_mB y) pc = .ok (.if_icmp .eq off, 3)) (ht : (pc : Int) + off = (tg : Int)) : am_ok l sc d y pc (am_icmp_eq (pc + 3) tg) := by
  intro K X P ls st kc ks G I J hK _ hs
  unfold am_icmp_eq at hs
  split at hs
  · rename_i b a r
    intro p R e s m args below meth c D cT A ad0 G0 Q ad H locs LS hC hM hc hn
    have hv := hM.sok
    simp only [List.forall_mem_cons] at hv
    refine lv_icmp_eq hC.1.1 hC.1.2.1 h ht (fun q => ?_) (fun q => ?_)
    · rw [if_pos q] at hs
      exact hK _ _ _ _ _ _ _ _ hs _ _ _ _ _ _ _ _ _ _ _ _ _ _ _ _ _ _ _ hC (hM.stk hv.2.2) hc hn
    · rw [if_neg q] at hs
      exact hK _ _ _ _ _ _ _ _ hs _ _ _ _ _ _ _ _ _ _ _ _ _ _ _ _ _ _ _ hC (hM.stk hv.2.2) hc hn
  · exact hs.elim
def am_if_ne (nx tg : Nat) : am_S := fun K X P ls st kc ks G I J => match st with
  | (.inl a) :: r => if a = 0 then K nx ls r kc ks G I J else K tg ls r kc ks G I J
  | _ => False
theorem ok_if_ne {off : Int} {tg : Nat} (h : decode (am_mB y) pc = .ok (.ifCond .ne off, 3)) (ht : (pc : Int) + off = (tg : Int)) : am_ok l sc d y pc (am_if_ne (pc + 3) tg) := by
  intro K X P ls st kc ks G I J hK _ hs
  unfold am_if_ne at hs
  split at hs
  · rename_i a r
    intro p R e s m args below meth c D cT A ad0 G0 Q ad H locs LS hC hM hc hn
    have hv := hM.sok
    simp only [List.forall_mem_cons] at hv
    refine lv_if_ne hC.1.1 hC.1.2.1 h ht (fun q => ?_) (fun q => ?_)
    · rw [if_neg q] at hs
      exact hK _ _ _ _ _ _ _ _ hs _ _ _ _ _ _ _ _ _ _ _ _ _ _ _ _ _ _ _ hC (hM.stk hv.2) hc hn
    · rw [if_pos q] at hs
      exact hK _ _ _ _ _ _ _ _ hs _ _ _ _ _ _ _ _ _ _ _ _ _ _ _ _ _ _ _ hC (hM.stk hv.2) hc hn
  · exact hs.elim
def am_icmp_ne (nx tg : Nat) : am_S := fun K X P ls st kc ks G I J => match st with
  | (.inl b) :: (.inl a) :: r => if a = b then K nx ls r kc ks G I J else K tg ls r kc ks G I J
  | _ => False
theorem ok_icmp_ne {off : Int} {tg : Nat} (h : decode (am_mB y) pc = .ok (.if_icmp .ne off, 3)) (ht : (pc : Int) + off = (tg : Int)) : am_ok l sc d y pc (am_icmp_ne (pc + 3) tg) := by
  intro K X P ls st kc ks G I J hK _ hs
  unfold am_icmp_ne at hs
  split at hs
  · rename_i b a r
    intro p R e s m args below meth c D cT A ad0 G0 Q ad H locs LS hC hM hc hn
    have hv := hM.sok
    simp only [List.forall_mem_cons] at hv
    refine lv_icmp_ne hC.1.1 hC.1.2.1 h ht (fun q => ?_) (fun q => ?_)
    · rw [if_neg q] at hs
      exact hK _ _ _ _ _ _ _ _ hs _ _ _ _ _ _ _ _ _ _ _ _ _ _ _ _ _ _ _ hC (hM.stk hv.2.2) hc hn
    · rw [if_pos q] at hs
      exact hK _ _ _ _ _ _ _ _ hs _ _ _ _ _ _ _ _ _ _ _ _ _ _ _ _ _ _ _ hC (hM.stk hv.2.2) hc hn
  · exact hs.elim
def am_if_lt (nx tg : Nat) : am_S := fun K X P ls st kc ks G I J => match st with
  | (.inl a) :: r => if a < 0 then K tg ls r kc ks G I J else K nx ls r kc ks G I J
  | _ => False
theorem ok_if_lt {off : Int} {tg : Nat} (h : decode (am_mB y) pc = .ok (.ifCond .lt off, 3)) (ht : (pc : Int) + off = (tg : Int)) : am_ok l sc d y pc (am_if_lt (pc + 3) tg) := by
  intro K X P ls st kc ks G I J hK _ hs
  unfold am_if_lt at hs
  split at hs
  · rename_i a r
    intro p R e s m args below meth c D cT A ad0 G0 Q ad H locs LS hC hM hc hn
    have hv := hM.sok
    simp only [List.forall_mem_cons] at hv
    refine lv_if_lt hC.1.1 hC.1.2.1 h ht (fun q => ?_) (fun q => ?_)
    · rw [if_pos q] at hs
      exact hK _ _ _ _ _ _ _ _ hs _ _ _ _ _ _ _ _ _ _ _ _ _ _ _ _ _ _ _ hC (hM.stk hv.2) hc hn
    · rw [if_neg q] at hs
      exact hK _ _ _ _ _ _ _ _ hs _ _ _ _ _ _ _ _ _ _ _ _ _ _ _ _ _ _ _ hC (hM.stk hv.2) hc hn
  · exact hs.elim
def am_icmp_lt (nx tg : Nat) : am_S := fun K X P ls st kc ks G I J => match st with
  | (.inl b) :: (.inl a) :: r => if a < b then K tg ls r kc ks G I J else K nx ls r kc ks G I J
  | _ => False
theorem ok_icmp_lt {off : Int} {tg : Nat} (h : decode (am_mB y) pc = .ok (.if_icmp .lt off, 3)) (ht : (pc : Int) + off = (tg : Int)) : am_ok l sc d y pc (am_icmp_lt (pc + 3) tg) := by
  intro K X P ls st kc ks G I J hK _ hs
  unfold am_icmp_lt at hs
  split at hs
  · rename_i b a r
    intro p R e s m args below meth c D cT A ad0 G0 Q ad H locs LS hC hM hc hn
    have hv := hM.sok
    simp only [List.forall_mem_cons] at hv
    refine lv_icmp_lt hC.1.1 hC.1.2.1 h ht (fun q => ?_) (fun q => ?_)
    · rw [if_pos q] at hs
      exact hK _ _ _ _ _ _ _ _ hs _ _ _ _ _ _ _ _ _ _ _ _ _ _ _ _ _ _ _ hC (hM.stk hv.2.2) hc hn
    · rw [if_neg q] at hs
      exact hK _ _ _ _ _ _ _ _ hs _ _ _ _ _ _ _ _ _ _ _ _ _ _ _ _ _ _ _ hC (hM.stk hv.2.2) hc hn
  · exact hs.elim
def am_if_ge (nx tg : Nat) : am_S := fun K X P ls st kc ks G I J => match st with
  | (.inl a) :: r => if 0 ≤ a then K tg ls r kc ks G I J else K nx ls r kc ks G I J
  | _ => False
theorem ok_if_ge {off : Int} {tg : Nat} (h : decode (am_mB y) pc = .ok (.ifCond .ge off, 3)) (ht : (pc : Int) + off = (tg : Int)) : am_ok l sc d y pc (am_if_ge (pc + 3) tg) := by
  intro K X P ls st kc ks G I J hK _ hs
  unfold am_if_ge at hs
  split at hs
  · rename_i a r
    intro p R e s m args below meth c D cT A ad0 G0 Q ad H locs LS hC hM hc hn
    have hv := hM.sok
    simp only [List.forall_mem_cons] at hv
    refine lv_if_ge hC.1.1 hC.1.2.1 h ht (fun q => ?_) (fun q => ?_)
    · rw [if_pos q] at hs
      exact hK _ _ _ _ _ _ _ _ hs _ _ _ _ _ _ _ _ _ _ _ _ _ _ _ _ _ _ _ hC (hM.stk hv.2) hc hn
    · rw [if_neg q] at hs
      exact hK _ _ _ _ _ _ _ _ hs _ _ _ _ _ _ _ _ _ _ _ _ _ _ _ _ _ _ _ hC (hM.stk hv.2) hc hn
  · exact hs.elim
def am_icmp_ge (nx tg : Nat) : am_S := fun K X P ls st kc ks G I J => match st with
  | (.inl b) :: (.inl a) :: r => if b ≤ a then K tg ls r kc ks G I J else K nx ls r kc ks G I J
  | _ => False
theorem ok_icmp_ge {off : Int} {tg : Nat} (h : decode (am_mB y) pc = .ok (.if_icmp .ge off, 3)) (ht : (pc : Int) + off = (tg : Int)) : am_ok l sc d y pc (am_icmp_ge (pc + 3) tg) := by
  intro K X P ls st kc ks G I J hK _ hs
  unfold am_icmp_ge at hs
  split at hs
  · rename_i b a r
    intro p R e s m args below meth c D cT A ad0 G0 Q ad H locs LS hC hM hc hn
    have hv := hM.sok
    simp only [List.forall_mem_cons] at hv
    refine lv_icmp_ge hC.1.1 hC.1.2.1 h ht (fun q => ?_) (fun q => ?_)
    · rw [if_pos q] at hs
      exact hK _ _ _ _ _ _ _ _ hs _ _ _ _ _ _ _ _ _ _ _ _ _ _ _ _ _ _ _ hC (hM.stk hv.2.2) hc hn
    · rw [if_neg q] at hs
      exact hK _ _ _ _ _ _ _ _ hs _ _ _ _ _ _ _ _ _ _ _ _ _ _ _ _ _ _ _ hC (hM.stk hv.2.2) hc hn
  · exact hs.elim
def am_if_gt (nx tg : Nat) : am_S := fun K X P ls st kc ks G I J => match st with
  | (.inl a) :: r => if 0 < a then K tg ls r kc ks G I J else K nx ls r kc ks G I J
  | _ => False
theorem ok_if_gt {off : Int} {tg : Nat} (h : decode (am_mB y) pc = .ok (.ifCond .gt off, 3)) (ht : (pc : Int) + off = (tg : Int)) : am_ok l sc d y pc (am_if_gt (pc + 3) tg) := by
  intro K X P ls st kc ks G I J hK _ hs
  unfold am_if_gt at hs
  split at hs
  · rename_i a r
    intro p R e s m args below meth c D cT A ad0 G0 Q ad H locs LS hC hM hc hn
    have hv := hM.sok
    simp only [List.forall_mem_cons] at hv
    refine lv_if_gt hC.1.1 hC.1.2.1 h ht (fun q => ?_) (fun q => ?_)
    · rw [if_pos q] at hs
      exact hK _ _ _ _ _ _ _ _ hs _ _ _ _ _ _ _ _ _ _ _ _ _ _ _ _ _ _ _ hC (hM.stk hv.2) hc hn
    · rw [if_neg q] at hs
      exact hK _ _ _ _ _ _ _ _ hs _ _ _ _ _ _ _ _ _ _ _ _ _ _ _ _ _ _ _ hC (hM.stk hv.2) hc hn
  · exact hs.elim
def am_icmp_gt (nx tg : Nat) : am_S := fun K X P ls st kc ks G I J => match st with
  | (.inl b) :: (.inl a) :: r => if b < a then K tg ls r kc ks G I J else K nx ls r kc ks G I J
  | _ => False
theorem ok_icmp_gt {off : Int} {tg : Nat} (h : decode (am_mB y) pc = .ok (.if_icmp .gt off, 3)) (ht : (pc : Int) + off = (tg : Int)) : am_ok l sc d y pc (am_icmp_gt (pc + 3) tg) := by
  intro K X P ls st kc ks G I J hK _ hs
  unfold am_icmp_gt at hs
  split at hs
  · rename_i b a r
    intro p R e s m args below meth c D cT A ad0 G0 Q ad H locs LS hC hM hc hn
    have hv := hM.sok
    simp only [List.forall_mem_cons] at hv
    refine lv_icmp_gt hC.1.1 hC.1.2.1 h ht (fun q => ?_) (fun q => ?_)
    · rw [if_pos q] at hs
      exact hK _ _ _ _ _ _ _ _ hs _ _ _ _ _ _ _ _ _ _ _ _ _ _ _ _ _ _ _ hC (hM.stk hv.2.2) hc hn
    · rw [if_neg q] at hs
      exact hK _ _ _ _ _ _ _ _ hs _ _ _ _ _ _ _ _ _ _ _ _ _ _ _ _ _ _ _ hC (hM.stk hv.2.2) hc hn
  · exact hs.elim
def am_if_le (nx tg : Nat) : am_S := fun K X P ls st kc ks G I J => match st with
  | (.inl a) :: r => if a ≤ 0 then K tg ls r kc ks G I J else K nx ls r kc ks G I J
  | _ => False
theorem ok_if_le {off : Int} {tg : Nat} (h : decode (am_mB y) pc = .ok (.ifCond .le off, 3)) (ht : (pc : Int) + off = (tg : Int)) : am_ok l sc d y pc (am_if_le (pc + 3) tg) := by
  intro K X P ls st kc ks G I J hK _ hs
  unfold am_if_le at hs
  split at hs
  · rename_i a r
    intro p R e s m args below meth c D cT A ad0 G0 Q ad H locs LS hC hM hc hn
    have hv := hM.sok
    simp only [List.forall_mem_cons] at hv
    refine lv_if_le hC.1.1 hC.1.2.1 h ht (fun q => ?_) (fun q => ?_)
    · rw [if_pos q] at hs
      exact hK _ _ _ _ _ _ _ _ hs _ _ _ _ _ _ _ _ _ _ _ _ _ _ _ _ _ _ _ hC (hM.stk hv.2) hc hn
    · rw [if_neg q] at hs
      exact hK _ _ _ _ _ _ _ _ hs _ _ _ _ _ _ _ _ _ _ _ _ _ _ _ _ _ _ _ hC (hM.stk hv.2) hc hn
  · exact hs.elim
def am_icmp_le (nx tg : Nat) : am_S := fun K X P ls st kc ks G I J => match st with
  | (.inl b) :: (.inl a) :: r => if a ≤ b then K tg ls r kc ks G I J else K nx ls r kc ks G I J
  | _ => False
theorem ok_icmp_le {off : Int} {tg : Nat} (h : decode (am_mB y) pc = .ok (.if_icmp .le off, 3)) (ht : (pc : Int) + off = (tg : Int)) : am_ok l sc d y pc (am_icmp_le (pc + 3) tg) := by
  intro K X P ls st kc ks G I J hK _ hs
  unfold am_icmp_le at hs
  split at hs
  · rename_i b a r
    intro p R e s m args below meth c D cT A ad0 G0 Q ad H locs LS hC hM hc hn
    have hv := hM.sok
    simp only [List.forall_mem_cons] at hv
    refine lv_icmp_le hC.1.1 hC.1.2.1 h ht (fun q => ?_) (fun q => ?_)
    · rw [if_pos q] at hs
      exact hK _ _ _ _ _ _ _ _ hs _ _ _ _ _ _ _ _ _ _ _ _ _ _ _ _ _ _ _ hC (hM.stk hv.2.2) hc hn
    · rw [if_neg q] at hs
      exact hK _ _ _ _ _ _ _ _ hs _ _ _ _ _ _ _ _ _ _ _ _ _ _ _ _ _ _ _ hC (hM.stk hv.2.2) hc hn
  · exact hs.elim
def am_goto (tg : Nat) : am_S := fun K X P ls st kc ks G I J => K tg ls st kc ks G I J
theorem ok_goto {off : Int} {tg : Nat} (h : decode (am_mB y) pc = .ok (.goto off, 3)) (ht : (pc : Int) + off = (tg : Int)) : am_ok l sc d y pc (am_goto tg) := by
  intro K X P ls st kc ks G I J hK _ hs
  intro p R e s m args below meth c D cT A ad0 G0 Q ad H locs LS hC hM hc hn
  refine lv_goto hC.1.1 hC.1.2.1 h ht ?_
  exact hK _ _ _ _ _ _ _ _ hs _ _ _ _ _ _ _ _ _ _ _ _ _ _ _ _ _ _ _ hC hM hc hn
def am_tsw (lo : Int) (tgs : List Nat) (df : Nat) : am_S := fun K X P ls st kc ks G I J => match st with
  | (.inl a) :: r => if a.toInt < lo then K df ls r kc ks G I J else match tgs[(a.toInt - lo).toNat]? with
    | some tg => K tg ls r kc ks G I J
    | none => K df ls r kc ks G I J
  | _ => False
theorem ok_tsw {dflt lo hi : Int} {offs : Array Int} {len df : Nat} {tgs : List Nat} (h : decode (am_mB y) pc = .ok (.tableswitch dflt lo hi offs, len)) (hdf : (pc : Int) + dflt = (df : Int)) (hto : offs.toList.map (fun o => (pc : Int) + o) = tgs.map (fun n : Nat => (n : Int))) (hlen : (tgs.length : Int) = hi + 1 - lo) : am_ok l sc d y pc (am_tsw lo tgs df) := by
  intro K X P ls st kc ks G I J hK _ hs
  unfold am_tsw at hs
  split at hs
  · rename_i a r
    intro p R e s m args below meth c D cT A ad0 G0 Q ad H locs LS hC hM hc hn
    have hv := hM.sok
    simp only [List.forall_mem_cons] at hv
    by_cases q : a.toInt < lo
    · rw [if_pos q] at hs
      refine lv_tableOut hC.1.1 hC.1.2.1 h (Or.inl q) hdf ?_
      exact hK _ _ _ _ _ _ _ _ hs _ _ _ _ _ _ _ _ _ _ _ _ _ _ _ _ _ _ _ hC (hM.stk hv.2) hc hn
    · rw [if_neg q] at hs
      cases ho : tgs[(a.toInt - lo).toNat]? with
      | none =>
        rw [ho] at hs
        have q2 : tgs.length ≤ (a.toInt - lo).toNat := by simpa using ho
        refine lv_tableOut hC.1.1 hC.1.2.1 h (Or.inr (by omega)) hdf ?_
        exact hK _ _ _ _ _ _ _ _ hs _ _ _ _ _ _ _ _ _ _ _ _ _ _ _ _ _ _ _ hC (hM.stk hv.2) hc hn
      | some tg =>
        rw [ho] at hs
        have q2 : (a.toInt - lo).toNat < tgs.length := (List.getElem?_eq_some_iff.mp ho).1
        have e1 : (offs.toList.map (fun o => (pc : Int) + o))[(a.toInt - lo).toNat]? = some (tg : Int) := by rw [hto, List.getElem?_map, ho]; rfl
        rw [List.getElem?_map, Option.map_eq_some_iff] at e1
        obtain ⟨o, e2, e3⟩ := e1
        refine lv_tableIn hC.1.1 hC.1.2.1 h q (by omega) (by rw [← Array.getElem?_toList]; exact e2) e3 ?_
        exact hK _ _ _ _ _ _ _ _ hs _ _ _ _ _ _ _ _ _ _ _ _ _ _ _ _ _ _ _ hC (hM.stk hv.2) hc hn
  · exact hs.elim
end AMO
end
section
/-! ===== the abstract machine's cells: fields, arrays, the script ===== -/
section AMW
variable {ad : am_A → Nat} {cT : Nat → ClassId} {G G' : am_G} {I I' : am_I} {J J' : am_J} {a : am_A} {A : Nat → Prop} {D : va_G}
theorem am_at_small : ∀ s : Nat, am_at s ≤ 4 → 10 ≤ s ∧ s < 36 := by
  intro s h
  by_cases q : s < 37
  · have : ∀ s : Nat, s < 37 → am_at s ≤ 4 → 10 ≤ s ∧ s < 36 := by decide +kernel
    exact this s q h
  · have e : am_at s = 9 := by
      unfold am_at
      have e2 : am_atl[s]? = none := by
        rw [List.getElem?_eq_none_iff]
        have : am_atl.length = 37 := by decide +kernel
        omega
      rw [List.getD_eq_getElem?_getD, e2]
      rfl
    omega
theorem am_ww_at (h : a ∈ G.1) : ∃ q0 : Nat, (am_ww ad cT G I J)[q0]? = some (ad a, am_ce ad cT G I J a) ∧ G.1[q0]? = some a := by
  obtain ⟨q0, h0⟩ := List.getElem?_of_mem h
  exact ⟨q0, by unfold am_ww; rw [List.getElem?_map, h0]; rfl, h0⟩
theorem am_ce_o (h : a.1 < 10) : am_ce ad cT G I J a = .inr (a.1, (List.range (am_cn a.1)).map fun k => if am_fk a.1 k = 2 then va_rf ((G.2 a k).map ad) else .int (I a k)) := by
  unfold am_ce
  rw [if_pos h]
theorem am_ce_i {t : Nat} (h : am_at a.1 = t) (ht : t < 3) : am_ce ad cT G I J a = .inl (cT t, (am_an a.1, .inl (I a))) := by
  have := am_at_small a.1 (by omega)
  unfold am_ce
  rw [if_neg (by omega), if_neg (by omega), if_neg (by omega), h]
theorem am_ce_l (h : am_at a.1 = 3) : am_ce ad cT G I J a = .inl (cT 3, (am_an a.1, .inr (.inl (J a)))) := by
  have := am_at_small a.1 (by omega)
  unfold am_ce
  rw [if_neg (by omega), if_pos h]
theorem am_ce_q (h : am_at a.1 = 4) : am_ce ad cT G I J a = .inl (cT 4, (am_an a.1, .inr (.inr (.inr (.inr (fun k => (G.2 a k).map ad)))))) := by
  have := am_at_small a.1 (by omega)
  unfold am_ce
  rw [if_neg (by omega), if_neg (by omega), if_pos h]
theorem am_ce_eq {b : am_A} (hR : ∀ k, G'.2 b k = G.2 b k) (hI : I' b = I b) (hJ : J' b = J b) : am_ce ad cT G' I' J' b = am_ce ad cT G I J b := by
  unfold am_ce
  simp only [hR, hI, hJ]
theorem am_fs_at {N k : Nat} {f : Nat → Value} (hk : k < N) : ((List.range N).map f)[k]? = some (f k) := by
  rw [List.getElem?_map, List.getElem?_range hk]; rfl
theorem am_fs_set {N k : Nat} {f f' : Nat → Value} {v : Value} (hk : k < N) (h1 : f' k = v) (h2 : ∀ j, j ≠ k → f' j = f j) : ((List.range N).map f).set k v = (List.range N).map f' := by
  apply List.ext_getElem?
  intro j
  by_cases hj : j = k
  · subst hj
    rw [List.getElem?_set_self (by simpa using hk), am_fs_at hk, h1]
  · rw [List.getElem?_set_ne (Ne.symm hj), List.getElem?_map, List.getElem?_map]
    cases hb : (List.range N)[j]? with
    | none => rfl
    | some b =>
      have e : b = j := by
        obtain ⟨hl, hb⟩ := List.getElem?_eq_some_iff.mp hb
        rw [← hb, List.getElem_range]
      rw [Option.map_some, Option.map_some, e, h2 j hj]
theorem am_ww_set {q0 : Nat} {e : va_E} (hD : va_D A (am_ww ad cT G I J)) (hq : G.1[q0]? = some a) (hG : G'.1 = G.1) (he : am_ce ad cT G' I' J' a = e) (ho : ∀ b ∈ G.1, b ≠ a → am_ce ad cT G' I' J' b = am_ce ad cT G I J b) : (am_ww ad cT G I J).set q0 (ad a, e) = am_ww ad cT G' I' J' := by
  apply List.ext_getElem?
  intro j
  have hw : ∀ (j : Nat) (b : am_A), G.1[j]? = some b → (am_ww ad cT G I J)[j]? = some (ad b, am_ce ad cT G I J b) := fun j b h => by
    unfold am_ww
    rw [List.getElem?_map, h]
    rfl
  have hw' : (am_ww ad cT G' I' J')[j]? = (G.1[j]?).map fun a => (ad a, am_ce ad cT G' I' J' a) := by
    unfold am_ww
    rw [hG, List.getElem?_map]
  by_cases hj : j = q0
  · subst hj
    rw [List.getElem?_set_self (List.getElem?_eq_some_iff.mp (hw j a hq)).1, hw', hq, Option.map_some, he]
  · rw [List.getElem?_set_ne (Ne.symm hj), hw']
    cases hb : G.1[j]? with
    | none =>
      unfold am_ww
      rw [List.getElem?_map, hb]
      rfl
    | some b =>
      have hba : b ≠ a := by
        rintro rfl
        exact hj (hD.1 j q0 _ _ (hw j b hb) (hw q0 b hq) rfl)
      rw [hw j b hb, Option.map_some, ho b (List.mem_of_getElem? hb) hba]
theorem am_vk_eq (hG : G'.1 = G.1) {v : am_V} (h : am_vk G v) : am_vk G' v := by
  rcases v with x | x | b
  · exact trivial
  · exact trivial
  · show b ∈ G'.1 ∨ b.1 = 36
    rw [hG]
    exact h
end AMW
section AMN
variable {sc : Nat × (Nat → Int32)} {y : Nat} {ad0 ad : am_A → Nat} {G0 G G' : am_G} {cT : Nat → ClassId} {D : va_G} {A : Nat → Prop} {s : State} {H H' : Heap} {locs locs' : List Loc} {LS : Array Slot} {ls : am_L} {st st' : List am_V} {I I' : am_I} {J J' : am_J}
theorem am_M.wld (h : am_M sc y ad0 G0 ad cT D A s H locs LS ls st G I J) (hG : G'.1 = G.1) (hP : va_P D am_cls (am_ww ad cT G' I' J') H') (hD : va_D A (am_ww ad cT G' I' J')) (hS : va_S A s.heap H' locs') (hw : am_wf G') (hs : ∀ v ∈ st', am_vk G v) : am_M sc y ad0 G0 ad cT D A s H' locs' LS ls st' G' I' J' := by
  obtain ⟨h1, h2, h3, h4, h5, h6, h7, h8, h9, h10⟩ := h
  exact ⟨h1, hP, hD, hS, hw, fun v hv => am_vk_eq hG (hs v hv), fun i v hv => am_vk_eq hG (h7 i v hv), h8, fun a ha => ⟨by rw [hG]; exact (h9 a ha).1, (h9 a ha).2⟩, h10⟩
theorem am_M.inG (h : am_M sc y ad0 G0 ad cT D A s H locs LS ls st G I J) {a : am_A} (hv : am_vk G (vR a)) (ha : a.1 ≠ 36) : a ∈ G.1 := hv.resolve_right ha
end AMN
def am_upI (I : am_I) (a : am_A) (k : Nat) (x : Int32) : am_I := fun b => if b = a then upd (I a) k x else I b
def am_upJ (J : am_J) (a : am_A) (k : Nat) (x : Int64) : am_J := fun b => if b = a then vp_updL (J a) k x else J b
def am_upR (R : am_A → Nat → Option am_A) (a : am_A) (k : Nat) (x : am_A) : am_A → Nat → Option am_A := fun b j => if b = a then (if j = k then some x else R a j) else R b j
def am_cpI (I : am_I) (a0 a : am_A) (sp dp n : Nat) : am_I := fun b => if b = a then va_cpy (I a0) (I a) sp dp n else I b
/-- the pool entry idx of y's class names the field k of the class ci -/
def am_fl (y idx ci k : Nat) : Prop := Cond.fieldLink (am_mY y).cls idx (am_cT ci k).1 (am_cT ci k).2.1 (am_cT ci k).2.2.1 ∈ am_tb ∨ ∃ host : String, Cond.fieldLinkNest (am_mY y).cls idx (am_cT ci k).1 (am_cT ci k).2.1 (am_cT ci k).2.2.1 host ∈ am_tb
section AMH
variable {l : Launch} {sc : Nat × (Nat → Int32)} {d y pc : Nat}
def am_getI (ci k nx : Nat) : am_S := fun K X P ls st kc ks G I J => match st with
  | (.inr (.inr a)) :: r => a.1 = ci ∧ K nx ls ((.inl (I a k)) :: r) kc ks G I J
  | _ => False
theorem ok_getI {ci k idx : Nat} (h : decode (am_mB y) pc = .ok (.getfield idx, 3)) (hf : am_fl y idx ci k) (hci : ci < 10 ∧ k < am_cn ci ∧ ¬ am_fk ci k = 2) : am_ok l sc d y pc (am_getI ci k (pc + 3)) := by
  intro K X P ls st kc ks G I J hK _ hs
  unfold am_getI at hs
  split at hs
  · rename_i a r
    intro p R e s m args below meth c D cT A ad0 G0 Q ad H locs LS hC hM hc hn
    have hv := hM.sok
    simp only [List.forall_mem_cons] at hv
    obtain ⟨rfl, hs⟩ := hs
    obtain ⟨q0, he, -⟩ := am_ww_at (ad := ad) (cT := cT) (I := I) (J := J) (hM.inG hv.1 (by omega))
    rw [am_ce_o hci.1] at he
    have hk := hK _ _ _ _ _ _ _ _ hs _ _ _ _ _ _ _ _ _ _ _ _ _ _ _ _ _ _ _ hC (hM.stk (st' := (vI (I a k)) :: r) (List.forall_mem_cons.mpr ⟨trivial, hv.2⟩)) hc hn
    have hval : ((List.range (am_cn a.1)).map fun k => if am_fk a.1 k = 2 then va_rf ((G.2 a k).map ad) else Value.int (I a k))[k]? = some (.int (I a k)) := by
      rw [am_fs_at hci.2.1, if_neg hci.2.2]
    rcases hf with hf | ⟨host, hf⟩
    · exact va_get hC.1.1 hC.1.2.1 (fun w hw => hC.2.1.1.use hw args) (am_hin a.1 hci.1) hC.1.2.2.2.2.1 hC.2.1.2.1 hM.2.1 q0 he (am_cls_at a.1 hci.1) k hci.2.1 (hC.2.1.1.use hf args) (fun _ h => h) hval h hk
    · exact va_getN hC.1.1 hC.1.2.1 (fun w hw => hC.2.1.1.use hw args) (am_hin a.1 hci.1) hC.1.2.2.2.2.1 hC.2.1.2.1 hM.2.1 q0 he (am_cls_at a.1 hci.1) k hci.2.1 (hC.2.1.1.use hf args) (fun _ h => h) hval h hk
  · exact hs.elim
def am_getR (ci k nx : Nat) : am_S := fun K X P ls st kc ks G I J => match st with
  | (.inr (.inr a)) :: r => a.1 = ci ∧ match G.2 a k with
    | some b => K nx ls ((.inr (.inr b)) :: r) kc ks G I J
    | none => False
  | _ => False
theorem ok_getR {ci k idx : Nat} (h : decode (am_mB y) pc = .ok (.getfield idx, 3)) (hf : am_fl y idx ci k) (hci : ci < 10 ∧ k < am_cn ci ∧ am_fk ci k = 2) : am_ok l sc d y pc (am_getR ci k (pc + 3)) := by
  intro K X P ls st kc ks G I J hK _ hs
  unfold am_getR at hs
  split at hs
  · rename_i a r
    intro p R e s m args below meth c D cT A ad0 G0 Q ad H locs LS hC hM hc hn
    have hv := hM.sok
    simp only [List.forall_mem_cons] at hv
    obtain ⟨rfl, hs⟩ := hs
    have haG := hM.inG hv.1 (by omega)
    split at hs
    · rename_i b hb
      obtain ⟨q0, he, -⟩ := am_ww_at (ad := ad) (cT := cT) (I := I) (J := J) haG
      rw [am_ce_o hci.1] at he
      have hk := hK _ _ _ _ _ _ _ _ hs _ _ _ _ _ _ _ _ _ _ _ _ _ _ _ _ _ _ _ hC (hM.stk (st' := (vR b) :: r) (List.forall_mem_cons.mpr ⟨Or.inl (hM.2.2.2.2.1.2 a haG k b hb), hv.2⟩)) hc hn
      have hval : ((List.range (am_cn a.1)).map fun k => if am_fk a.1 k = 2 then va_rf ((G.2 a k).map ad) else Value.int (I a k))[k]? = some (.ref (ad b)) := by
        rw [am_fs_at hci.2.1, if_pos hci.2.2, hb]
        rfl
      rcases hf with hf | ⟨host, hf⟩
      · exact va_get hC.1.1 hC.1.2.1 (fun w hw => hC.2.1.1.use hw args) (am_hin a.1 hci.1) hC.1.2.2.2.2.1 hC.2.1.2.1 hM.2.1 q0 he (am_cls_at a.1 hci.1) k hci.2.1 (hC.2.1.1.use hf args) (fun _ h => h) hval h hk
      · exact va_getN hC.1.1 hC.1.2.1 (fun w hw => hC.2.1.1.use hw args) (am_hin a.1 hci.1) hC.1.2.2.2.2.1 hC.2.1.2.1 hM.2.1 q0 he (am_cls_at a.1 hci.1) k hci.2.1 (hC.2.1.1.use hf args) (fun _ h => h) hval h hk
    · exact hs.elim
  · exact hs.elim
/-- the put of an int field: x is 0 or 1 where the field is a truth value -/
def am_putI (ci k nx : Nat) : am_S := fun K X P ls st kc ks G I J => match st with
  | (.inl x) :: (.inr (.inr a)) :: r => a.1 = ci ∧ (am_fk ci k = 1 → x = 0 ∨ x = 1) ∧ K nx ls r kc ks G (am_upI I a k x) J
  | _ => False
theorem am_nz {x : Int32} (h : x = 0 ∨ x = 1) : narrow .boolean (.int x) = .int x ∧ fits .boolean (.int x) = true := by
  rcases h with rfl | rfl
  · exact ⟨by decide +kernel, by decide +kernel⟩
  · exact ⟨by decide +kernel, by decide +kernel⟩
theorem ok_putI {ci k idx : Nat} (h : decode (am_mB y) pc = .ok (.putfield idx, 3)) (hf : am_fl y idx ci k) (hci : ci < 10 ∧ k < am_cn ci ∧ ¬ am_fk ci k = 2) : am_ok l sc d y pc (am_putI ci k (pc + 3)) := by
  intro K X P ls st kc ks G I J hK _ hs
  unfold am_putI at hs
  split at hs
  · rename_i x a r
    intro p R e s m args below meth c D cT A ad0 G0 Q ad H locs LS hC hM hc hn
    have hv := hM.sok
    simp only [List.forall_mem_cons] at hv
    obtain ⟨rfl, hz, hs⟩ := hs
    have haG := hM.inG hv.2.1 (by omega)
    obtain ⟨q0, he, hq0⟩ := am_ww_at (ad := ad) (cT := cT) (I := I) (J := J) haG
    rw [am_ce_o hci.1] at he
    obtain ⟨f0, f1, -, f3⟩ := am_hfk a.1 hci.1 k hci.2.1
    have hty := am_hty a.1 hci.1 k hci.2.1
    have hset : (am_ww ad cT G I J).set q0 (ad a, .inr (a.1, ((List.range (am_cn a.1)).map fun k => if am_fk a.1 k = 2 then va_rf ((G.2 a k).map ad) else Value.int (I a k)).set k (.int x))) = am_ww ad cT G (am_upI I a k x) J := by
      refine am_ww_set hM.2.2.1 hq0 rfl ?_ (fun b _ hb => am_ce_eq (fun _ => rfl) (by simp [am_upI, hb]) rfl)
      rw [am_ce_o hci.1, am_fs_set hci.2.1]
      · rw [if_neg hci.2.2]; simp [am_upI, upd]
      · intro j hj
        simp [am_upI, upd, hj]
    have hfin : (am_cT a.1 k).2.2.2 = false := by
      rcases (show am_fk a.1 k = 0 ∨ am_fk a.1 k = 1 by omega) with g | g
      · exact (f0 g).2
      · exact (f1 g).2
    have hnf : narrow (am_ty a.1 k) (.int x) = .int x ∧ fits (am_ty a.1 k) (.int x) = true := by
      rcases (show am_fk a.1 k = 0 ∨ am_fk a.1 k = 1 by omega) with g | g
      · rw [(f0 g).1]; exact ⟨rfl, rfl⟩
      · rw [(f1 g).1]; exact am_nz (hz g)
    have kk : ∀ (H1 : Heap) (locs1 : List Loc), va_P D am_cls ((am_ww ad cT G I J).set q0 (ad a, .inr (a.1, ((List.range (am_cn a.1)).map fun k => if am_fk a.1 k = 2 then va_rf ((G.2 a k).map ad) else Value.int (I a k)).set k (.int x)))) H1 → va_D A ((am_ww ad cT G I J).set q0 (ad a, .inr (a.1, ((List.range (am_cn a.1)).map fun k => if am_fk a.1 k = 2 then va_rf ((G.2 a k).map ad) else Value.int (I a k)).set k (.int x)))) → va_S A s.heap H1 locs1 → W p l e R s m args below meth c H1 locs1 kc ks Q (F0 m (pc + 3) LS (r.map (am_cv ad))) := by
      intro H1 locs1 hP1 hD1 hS1
      rw [hset] at hP1 hD1
      exact hK _ _ _ _ _ _ _ _ hs _ _ _ _ _ _ _ _ _ _ _ _ _ _ _ _ _ _ _ hC (hM.wld rfl hP1 hD1 hS1 hM.2.2.2.2.1 hv.2.2) hc hn
    rcases hf with hf | ⟨host, hf⟩
    · exact va_put hC.1.1 hC.1.2.1 (fun w hw => hC.2.1.1.use hw args) (am_hin a.1 hci.1) (am_ty a.1) (am_hty a.1 hci.1) (am_hnm a.1 hci.1) hC.1.2.2.2.2.1 hC.2.1.2.1 hM.2.1 hM.2.2.1 hM.2.2.2.1 q0 he (am_cls_at a.1 hci.1) k hci.2.1 (hC.2.1.1.use hf args) (fun _ h => h) hfin hty hnf.1 hnf.2 (by simpa using hci.2.1) h kk
    · exact va_putN hC.1.1 hC.1.2.1 (fun w hw => hC.2.1.1.use hw args) (am_hin a.1 hci.1) (am_ty a.1) (am_hty a.1 hci.1) (am_hnm a.1 hci.1) hC.1.2.2.2.2.1 hC.2.1.2.1 hM.2.1 hM.2.2.1 hM.2.2.2.1 q0 he (am_cls_at a.1 hci.1) k hci.2.1 (hC.2.1.1.use hf args) (fun _ h => h) hfin hty hnf.1 hnf.2 (by simpa using hci.2.1) h kk
  · exact hs.elim
/-- a final reference field, put by its own constructor -/
def am_putR (ci k nx : Nat) : am_S := fun K X P ls st kc ks G I J => match st with
  | (.inr (.inr b)) :: (.inr (.inr a)) :: r => a.1 = ci ∧ b.1 < 36 ∧ K nx ls r kc ks (G.1, am_upR G.2 a k b) I J
  | _ => False
theorem am_isref {ty : FieldType} (h : ty.isReference = true) (q : Nat) : narrow ty (.ref q) = .ref q ∧ fits ty (.ref q) = true := by
  cases ty <;> first | exact ⟨rfl, rfl⟩ | (simp [FieldType.isReference] at h)
theorem ok_putR {ci k idx : Nat} (h : decode (am_mB y) pc = .ok (.putfield idx, 3)) (hf : Cond.fieldLink (am_mY y).cls idx (am_cT ci k).1 (am_cT ci k).2.1 (am_cT ci k).2.2.1 ∈ am_tb) (hci : ci < 10 ∧ k < am_cn ci ∧ am_fk ci k = 2) (hy : (am_mY y).name = "<init>" ∧ (am_mY y).cls = am_cN ci) : am_ok l sc d y pc (am_putR ci k (pc + 3)) := by
  intro K X P ls st kc ks G I J hK _ hs
  unfold am_putR at hs
  split at hs
  · rename_i b a r
    intro p R e s m args below meth c D cT A ad0 G0 Q ad H locs LS hC hM hc hn
    have hv := hM.sok
    simp only [List.forall_mem_cons] at hv
    obtain ⟨rfl, hb36, hs⟩ := hs
    have haG := hM.inG hv.2.1 (by omega)
    have hbG := hM.inG hv.1 (by omega)
    obtain ⟨q0, he, hq0⟩ := am_ww_at (ad := ad) (cT := cT) (I := I) (J := J) haG
    rw [am_ce_o hci.1] at he
    obtain ⟨-, -, f2, -⟩ := am_hfk a.1 hci.1 k hci.2.1
    obtain ⟨f2, f3⟩ := f2 hci.2.2
    have hset : (am_ww ad cT G I J).set q0 (ad a, .inr (a.1, ((List.range (am_cn a.1)).map fun k => if am_fk a.1 k = 2 then va_rf ((G.2 a k).map ad) else Value.int (I a k)).set k (.ref (ad b)))) = am_ww ad cT (G.1, am_upR G.2 a k b) I J := by
      refine am_ww_set hM.2.2.1 hq0 rfl ?_ (fun b' _ hb' => am_ce_eq (fun _ => by simp [am_upR, hb']) rfl rfl)
      rw [am_ce_o hci.1, am_fs_set hci.2.1]
      · rw [if_pos hci.2.2]; simp [am_upR, va_rf]
      · intro j hj
        simp [am_upR, hj]
    have hwf : am_wf (G.1, am_upR G.2 a k b) := by
      refine ⟨hM.2.2.2.2.1.1, fun a' ha' j b' hb' => ?_⟩
      have hb' : am_upR G.2 a k b a' j = some b' := hb'
      unfold am_upR at hb'
      split at hb'
      · split at hb'
        · cases hb'; exact hbG
        · exact hM.2.2.2.2.1.2 a haG j b' hb'
      · exact hM.2.2.2.2.1.2 a' ha' j b' hb'
    refine va_putF (v := .ref (ad b)) hC.1.1 hC.1.2.1 (fun w hw => hC.2.1.1.use hw args) (am_hin a.1 hci.1) (am_ty a.1) (am_hty a.1 hci.1) (am_hnm a.1 hci.1) hC.1.2.2.2.2.1 hC.2.1.2.1 hM.2.1 hM.2.2.1 hM.2.2.2.1 q0 he (am_cls_at a.1 hci.1) k hci.2.1 (hC.2.1.1.use hf args) (fun _ h => h) f3 (hC.1.2.2.2.2.2.2.trans hy.1) (by rw [am_hdc a.1 hci.1 k hci.2.1, hy.2]) (am_hty a.1 hci.1 k hci.2.1) (am_isref f2 _).1 (am_isref f2 _).2 (by simpa using hci.2.1) h ?_
    intro H1 locs1 hP1 hD1 hS1
    rw [hset] at hP1 hD1
    exact hK _ _ _ _ _ _ _ _ hs _ _ _ _ _ _ _ _ _ _ _ _ _ _ _ _ _ _ _ hC (hM.wld rfl hP1 hD1 hS1 hwf hv.2.2) hc hn
  · exact hs.elim
/-! arrays -/
theorem am_ty_at (cT : Nat → ClassId) : ∀ t : Nat, t < 5 → (am_tys cT)[t]? = some (cT t, am_aty t) := by
  intro t h
  match t, h with
  | 0, _ => rfl
  | 1, _ => rfl
  | 2, _ => rfl
  | 3, _ => rfl
  | 4, _ => rfl
  | k + 5, h => exact absurd h (by omega)
def am_ald (t nx : Nat) : am_S := fun K X P ls st kc ks G I J => match st with
  | (.inl i) :: (.inr (.inr a)) :: r => am_at a.1 = t ∧ vp_in i (am_an a.1) ∧ K nx ls ((.inl (I a i.toNatClampNeg)) :: r) kc ks G I J
  | _ => False
theorem ok_iald (h : decode (am_mB y) pc = .ok (.iaload, 1)) : am_ok l sc d y pc (am_ald 0 (pc + 1)) := by
  intro K X P ls st kc ks G I J hK _ hs
  unfold am_ald at hs
  split at hs
  · rename_i i a r
    intro p R e s m args below meth c D cT A ad0 G0 Q ad H locs LS hC hM hc hn
    have hv := hM.sok
    simp only [List.forall_mem_cons] at hv
    obtain ⟨ht, hi, hs⟩ := hs
    have h36 := am_at_small a.1 (by omega)
    obtain ⟨q0, he, -⟩ := am_ww_at (ad := ad) (cT := cT) (I := I) (J := J) (hM.inG hv.2.1 (by omega))
    rw [am_ce_i ht (by decide)] at he
    exact va_iald hC.1.1 hC.1.2.1 hC.2.1.2.1 hM.2.1 q0 0 he (am_ty_at cT 0 (by decide)) hi h (hK _ _ _ _ _ _ _ _ hs _ _ _ _ _ _ _ _ _ _ _ _ _ _ _ _ _ _ _ hC (hM.stk (st' := (vI (I a i.toNatClampNeg)) :: r) (List.forall_mem_cons.mpr ⟨trivial, hv.2.2⟩)) hc hn)
  · exact hs.elim
theorem ok_zald (h : decode (am_mB y) pc = .ok (.baload, 1)) : am_ok l sc d y pc (am_ald 1 (pc + 1)) := by
  intro K X P ls st kc ks G I J hK _ hs
  unfold am_ald at hs
  split at hs
  · rename_i i a r
    intro p R e s m args below meth c D cT A ad0 G0 Q ad H locs LS hC hM hc hn
    have hv := hM.sok
    simp only [List.forall_mem_cons] at hv
    obtain ⟨ht, hi, hs⟩ := hs
    have h36 := am_at_small a.1 (by omega)
    obtain ⟨q0, he, -⟩ := am_ww_at (ad := ad) (cT := cT) (I := I) (J := J) (hM.inG hv.2.1 (by omega))
    rw [am_ce_i ht (by decide)] at he
    exact va_zald hC.1.1 hC.1.2.1 hC.2.1.2.1 hM.2.1 q0 1 he (am_ty_at cT 1 (by decide)) hi h (hK _ _ _ _ _ _ _ _ hs _ _ _ _ _ _ _ _ _ _ _ _ _ _ _ _ _ _ _ hC (hM.stk (st' := (vI (I a i.toNatClampNeg)) :: r) (List.forall_mem_cons.mpr ⟨trivial, hv.2.2⟩)) hc hn)
  · exact hs.elim
theorem ok_cald (h : decode (am_mB y) pc = .ok (.caload, 1)) : am_ok l sc d y pc (am_ald 2 (pc + 1)) := by
  intro K X P ls st kc ks G I J hK _ hs
  unfold am_ald at hs
  split at hs
  · rename_i i a r
    intro p R e s m args below meth c D cT A ad0 G0 Q ad H locs LS hC hM hc hn
    have hv := hM.sok
    simp only [List.forall_mem_cons] at hv
    obtain ⟨ht, hi, hs⟩ := hs
    have h36 := am_at_small a.1 (by omega)
    obtain ⟨q0, he, -⟩ := am_ww_at (ad := ad) (cT := cT) (I := I) (J := J) (hM.inG hv.2.1 (by omega))
    rw [am_ce_i ht (by decide)] at he
    exact va_cald hC.1.1 hC.1.2.1 hC.2.1.2.1 hM.2.1 q0 2 he (am_ty_at cT 2 (by decide)) hi h (hK _ _ _ _ _ _ _ _ hs _ _ _ _ _ _ _ _ _ _ _ _ _ _ _ _ _ _ _ hC (hM.stk (st' := (vI (I a i.toNatClampNeg)) :: r) (List.forall_mem_cons.mpr ⟨trivial, hv.2.2⟩)) hc hn)
  · exact hs.elim
def am_lald (nx : Nat) : am_S := fun K X P ls st kc ks G I J => match st with
  | (.inl i) :: (.inr (.inr a)) :: r => am_at a.1 = 3 ∧ vp_in i (am_an a.1) ∧ K nx ls ((.inr (.inl (J a i.toNatClampNeg))) :: r) kc ks G I J
  | _ => False
theorem ok_lald (h : decode (am_mB y) pc = .ok (.laload, 1)) : am_ok l sc d y pc (am_lald (pc + 1)) := by
  intro K X P ls st kc ks G I J hK _ hs
  unfold am_lald at hs
  split at hs
  · rename_i i a r
    intro p R e s m args below meth c D cT A ad0 G0 Q ad H locs LS hC hM hc hn
    have hv := hM.sok
    simp only [List.forall_mem_cons] at hv
    obtain ⟨ht, hi, hs⟩ := hs
    have h36 := am_at_small a.1 (by omega)
    obtain ⟨q0, he, -⟩ := am_ww_at (ad := ad) (cT := cT) (I := I) (J := J) (hM.inG hv.2.1 (by omega))
    rw [am_ce_l ht] at he
    exact va_lald hC.1.1 hC.1.2.1 hC.2.1.2.1 hM.2.1 q0 3 he (am_ty_at cT 3 (by decide)) hi h (hK _ _ _ _ _ _ _ _ hs _ _ _ _ _ _ _ _ _ _ _ _ _ _ _ _ _ _ _ hC (hM.stk (st' := (vL (J a i.toNatClampNeg)) :: r) (List.forall_mem_cons.mpr ⟨trivial, hv.2.2⟩)) hc hn)
  · exact hs.elim
/-- a store into an array of ints, truth values or signs: f narrows -/
def am_ast (t : Nat) (f : Int32 → Int32) (nx : Nat) : am_S := fun K X P ls st kc ks G I J => match st with
  | (.inl x) :: (.inl i) :: (.inr (.inr a)) :: r => am_at a.1 = t ∧ vp_in i (am_an a.1) ∧ K nx ls r kc ks G (am_upI I a i.toNatClampNeg (f x)) J
  | _ => False
theorem ok_iast (h : decode (am_mB y) pc = .ok (.iastore, 1)) : am_ok l sc d y pc (am_ast 0 (fun x => x) (pc + 1)) := by
  intro K X P ls st kc ks G I J hK _ hs
  unfold am_ast at hs
  split at hs
  · rename_i x i a r
    intro p R e s m args below meth c D cT A ad0 G0 Q ad H locs LS hC hM hc hn
    have hv := hM.sok
    simp only [List.forall_mem_cons] at hv
    obtain ⟨ht, hi, hs⟩ := hs
    have h36 := am_at_small a.1 (by omega)
    obtain ⟨q0, he, hq0⟩ := am_ww_at (ad := ad) (cT := cT) (I := I) (J := J) (hM.inG hv.2.2.1 (by omega))
    rw [am_ce_i ht (by decide)] at he
    refine va_iast hC.1.1 hC.1.2.1 hC.2.1.2.1 hM.2.1 hM.2.2.1 hM.2.2.2.1 q0 0 he (am_ty_at cT 0 (by decide)) hi h (fun H1 locs1 hP1 hD1 hS1 => ?_)
    rw [am_ww_set (G' := G) (I' := am_upI I a i.toNatClampNeg ((fun x => x) x)) (J' := J) hM.2.2.1 hq0 rfl (by rw [am_ce_i ht (by decide)]; simp [am_upI]) (fun b _ hb => am_ce_eq (fun _ => rfl) (by simp [am_upI, hb]) rfl)] at hP1 hD1
    exact hK _ _ _ _ _ _ _ _ hs _ _ _ _ _ _ _ _ _ _ _ _ _ _ _ _ _ _ _ hC (hM.wld rfl hP1 hD1 hS1 hM.2.2.2.2.1 hv.2.2.2) hc hn
  · exact hs.elim
theorem ok_zast (h : decode (am_mB y) pc = .ok (.bastore, 1)) : am_ok l sc d y pc (am_ast 1 (vp_nar .boolean) (pc + 1)) := by
  intro K X P ls st kc ks G I J hK _ hs
  unfold am_ast at hs
  split at hs
  · rename_i x i a r
    intro p R e s m args below meth c D cT A ad0 G0 Q ad H locs LS hC hM hc hn
    have hv := hM.sok
    simp only [List.forall_mem_cons] at hv
    obtain ⟨ht, hi, hs⟩ := hs
    have h36 := am_at_small a.1 (by omega)
    obtain ⟨q0, he, hq0⟩ := am_ww_at (ad := ad) (cT := cT) (I := I) (J := J) (hM.inG hv.2.2.1 (by omega))
    rw [am_ce_i ht (by decide)] at he
    refine va_zast hC.1.1 hC.1.2.1 hC.2.1.2.1 hM.2.1 hM.2.2.1 hM.2.2.2.1 q0 1 he (am_ty_at cT 1 (by decide)) hi h (fun H1 locs1 hP1 hD1 hS1 => ?_)
    rw [am_ww_set (G' := G) (I' := am_upI I a i.toNatClampNeg ((vp_nar .boolean) x)) (J' := J) hM.2.2.1 hq0 rfl (by rw [am_ce_i ht (by decide)]; simp [am_upI]) (fun b _ hb => am_ce_eq (fun _ => rfl) (by simp [am_upI, hb]) rfl)] at hP1 hD1
    exact hK _ _ _ _ _ _ _ _ hs _ _ _ _ _ _ _ _ _ _ _ _ _ _ _ _ _ _ _ hC (hM.wld rfl hP1 hD1 hS1 hM.2.2.2.2.1 hv.2.2.2) hc hn
  · exact hs.elim
theorem ok_cast (h : decode (am_mB y) pc = .ok (.castore, 1)) : am_ok l sc d y pc (am_ast 2 (vp_nar .char) (pc + 1)) := by
  intro K X P ls st kc ks G I J hK _ hs
  unfold am_ast at hs
  split at hs
  · rename_i x i a r
    intro p R e s m args below meth c D cT A ad0 G0 Q ad H locs LS hC hM hc hn
    have hv := hM.sok
    simp only [List.forall_mem_cons] at hv
    obtain ⟨ht, hi, hs⟩ := hs
    have h36 := am_at_small a.1 (by omega)
    obtain ⟨q0, he, hq0⟩ := am_ww_at (ad := ad) (cT := cT) (I := I) (J := J) (hM.inG hv.2.2.1 (by omega))
    rw [am_ce_i ht (by decide)] at he
    refine va_cast hC.1.1 hC.1.2.1 hC.2.1.2.1 hM.2.1 hM.2.2.1 hM.2.2.2.1 q0 2 he (am_ty_at cT 2 (by decide)) hi h (fun H1 locs1 hP1 hD1 hS1 => ?_)
    rw [am_ww_set (G' := G) (I' := am_upI I a i.toNatClampNeg ((vp_nar .char) x)) (J' := J) hM.2.2.1 hq0 rfl (by rw [am_ce_i ht (by decide)]; simp [am_upI]) (fun b _ hb => am_ce_eq (fun _ => rfl) (by simp [am_upI, hb]) rfl)] at hP1 hD1
    exact hK _ _ _ _ _ _ _ _ hs _ _ _ _ _ _ _ _ _ _ _ _ _ _ _ _ _ _ _ hC (hM.wld rfl hP1 hD1 hS1 hM.2.2.2.2.1 hv.2.2.2) hc hn
  · exact hs.elim
def am_last (nx : Nat) : am_S := fun K X P ls st kc ks G I J => match st with
  | (.inr (.inl x)) :: (.inl i) :: (.inr (.inr a)) :: r => am_at a.1 = 3 ∧ vp_in i (am_an a.1) ∧ K nx ls r kc ks G I (am_upJ J a i.toNatClampNeg x)
  | _ => False
theorem ok_last (h : decode (am_mB y) pc = .ok (.lastore, 1)) : am_ok l sc d y pc (am_last (pc + 1)) := by
  intro K X P ls st kc ks G I J hK _ hs
  unfold am_last at hs
  split at hs
  · rename_i x i a r
    intro p R e s m args below meth c D cT A ad0 G0 Q ad H locs LS hC hM hc hn
    have hv := hM.sok
    simp only [List.forall_mem_cons] at hv
    obtain ⟨ht, hi, hs⟩ := hs
    have h36 := am_at_small a.1 (by omega)
    obtain ⟨q0, he, hq0⟩ := am_ww_at (ad := ad) (cT := cT) (I := I) (J := J) (hM.inG hv.2.2.1 (by omega))
    rw [am_ce_l ht] at he
    refine va_last hC.1.1 hC.1.2.1 hC.2.1.2.1 hM.2.1 hM.2.2.1 hM.2.2.2.1 q0 3 he (am_ty_at cT 3 (by decide)) hi h (fun H1 locs1 hP1 hD1 hS1 => ?_)
    rw [am_ww_set (G' := G) (I' := I) (J' := am_upJ J a i.toNatClampNeg x) hM.2.2.1 hq0 rfl (by rw [am_ce_l ht]; simp [am_upJ]) (fun b _ hb => am_ce_eq (fun _ => rfl) rfl (by simp [am_upJ, hb]))] at hP1 hD1
    exact hK _ _ _ _ _ _ _ _ hs _ _ _ _ _ _ _ _ _ _ _ _ _ _ _ _ _ _ _ hC (hM.wld rfl hP1 hD1 hS1 hM.2.2.2.2.1 hv.2.2.2) hc hn
  · exact hs.elim
def am_qald (nx : Nat) : am_S := fun K X P ls st kc ks G I J => match st with
  | (.inl i) :: (.inr (.inr a)) :: r => am_at a.1 = 4 ∧ vp_in i (am_an a.1) ∧ match G.2 a i.toNatClampNeg with
    | some b => K nx ls ((.inr (.inr b)) :: r) kc ks G I J
    | none => False
  | _ => False
theorem ok_qald (h : decode (am_mB y) pc = .ok (.aaload, 1)) : am_ok l sc d y pc (am_qald (pc + 1)) := by
  intro K X P ls st kc ks G I J hK _ hs
  unfold am_qald at hs
  split at hs
  · rename_i i a r
    intro p R e s m args below meth c D cT A ad0 G0 Q ad H locs LS hC hM hc hn
    have hv := hM.sok
    simp only [List.forall_mem_cons] at hv
    obtain ⟨ht, hi, hs⟩ := hs
    have h36 := am_at_small a.1 (by omega)
    have haG := hM.inG hv.2.1 (by omega)
    split at hs
    · rename_i b hb
      obtain ⟨q0, he, -⟩ := am_ww_at (ad := ad) (cT := cT) (I := I) (J := J) haG
      rw [am_ce_q ht] at he
      refine va_aldq (C := "TablePager$Table") hC.1.1 hC.1.2.1 hC.2.1.2.1 hM.2.1 q0 4 he (am_ty_at cT 4 (by decide)) hi h ?_
      have hk := hK _ _ _ _ _ _ _ _ hs _ _ _ _ _ _ _ _ _ _ _ _ _ _ _ _ _ _ _ hC (hM.stk (st' := (vR b) :: r) (List.forall_mem_cons.mpr ⟨Or.inl (hM.2.2.2.2.1.2 a haG _ b hb), hv.2.2⟩)) hc hn
      simp only [hb]
      exact hk
    · exact hs.elim
  · exact hs.elim
def am_qast (nx : Nat) : am_S := fun K X P ls st kc ks G I J => match st with
  | (.inr (.inr b)) :: (.inl i) :: (.inr (.inr a)) :: r => am_at a.1 = 4 ∧ vp_in i (am_an a.1) ∧ b.1 = 7 ∧ K nx ls r kc ks (G.1, am_upR G.2 a i.toNatClampNeg b) I J
  | _ => False
theorem ok_qast (h : decode (am_mB y) pc = .ok (.aastore, 1)) : am_ok l sc d y pc (am_qast (pc + 1)) := by
  intro K X P ls st kc ks G I J hK _ hs
  unfold am_qast at hs
  split at hs
  · rename_i b i a r
    intro p R e s m args below meth c D cT A ad0 G0 Q ad H locs LS hC hM hc hn
    have hv := hM.sok
    simp only [List.forall_mem_cons] at hv
    obtain ⟨ht, hi, hb7, hs⟩ := hs
    have h36 := am_at_small a.1 (by omega)
    have haG := hM.inG hv.2.2.1 (by omega)
    have hbG := hM.inG hv.1 (by omega)
    obtain ⟨q0, he, hq0⟩ := am_ww_at (ad := ad) (cT := cT) (I := I) (J := J) haG
    obtain ⟨qk, hek, -⟩ := am_ww_at (ad := ad) (cT := cT) (I := I) (J := J) hbG
    rw [am_ce_q ht] at he
    rw [am_ce_o (by omega), hb7] at hek
    have hwf : am_wf (G.1, am_upR G.2 a i.toNatClampNeg b) := by
      refine ⟨hM.2.2.2.2.1.1, fun a' ha' j b' hb' => ?_⟩
      have hb' : am_upR G.2 a i.toNatClampNeg b a' j = some b' := hb'
      unfold am_upR at hb'
      split at hb'
      · split at hb'
        · cases hb'; exact hbG
        · exact hM.2.2.2.2.1.2 a haG j b' hb'
      · exact hM.2.2.2.2.1.2 a' ha' j b' hb'
    refine va_astq (r := ("TablePager$Table", am_F7, 13)) hC.1.1 hC.1.2.1 hC.2.1.2.1 hM.2.1 hM.2.2.1 hM.2.2.2.1 q0 4 qk 7 he (am_ty_at cT 4 (by decide)) hek rfl hi h (fun H1 locs1 hP1 hD1 hS1 => ?_)
    rw [am_ww_set (G' := (G.1, am_upR G.2 a i.toNatClampNeg b)) (I' := I) (J' := J) hM.2.2.1 hq0 rfl (by
      rw [am_ce_q ht]
      refine congrArg (fun f => Sum.inl (cT 4, (am_an a.1, Sum.inr (Sum.inr (Sum.inr (Sum.inr f)))))) ?_
      funext j
      by_cases hj : j = i.toNatClampNeg
      · subst hj; simp [am_upR, va_up]
      · simp [am_upR, va_up, hj]) (fun b' _ hb' => am_ce_eq (fun _ => by simp [am_upR, hb']) rfl rfl)] at hP1 hD1
    exact hK _ _ _ _ _ _ _ _ hs _ _ _ _ _ _ _ _ _ _ _ _ _ _ _ _ _ _ _ hC (hM.wld rfl hP1 hD1 hS1 hwf hv.2.2.2) hc hn
  · exact hs.elim
/-- the script: its length, its ints -/
def am_slen (n : Nat) (nx : Nat) : am_S := fun K X P ls st kc ks G I J => match st with
  | (.inr (.inr a)) :: r => a = (36, 0) ∧ K nx ls ((.inl (Int32.ofNat n)) :: r) kc ks G I J
  | _ => False
theorem ok_slen (h : decode (am_mB y) pc = .ok (.arraylength, 1)) (hy : am_scy y = true) : am_ok l sc d y pc (am_slen sc.1 (pc + 1)) := by
  intro K X P ls st kc ks G I J hK _ hs
  unfold am_slen at hs
  split at hs
  · rename_i a r
    intro p R e s m args below meth c D cT A ad0 G0 Q ad H locs LS hC hM hc hn
    have hv := hM.sok
    simp only [List.forall_mem_cons] at hv
    obtain ⟨rfl, hs⟩ := hs
    obtain ⟨hX, hbl, hbA⟩ := hM.2.2.2.2.2.2.2.1 hy
    exact va_slen hC.1.1 hC.1.2.1 hX hbl hbA hM.2.2.2.1 h (hK _ _ _ _ _ _ _ _ hs _ _ _ _ _ _ _ _ _ _ _ _ _ _ _ _ _ _ _ hC (hM.stk (List.forall_mem_cons.mpr ⟨trivial, hv.2⟩)) hc hn)
  · exact hs.elim
def am_sld (n : Nat) (xs : Nat → Int32) (nx : Nat) : am_S := fun K X P ls st kc ks G I J => match st with
  | (.inl i) :: (.inr (.inr a)) :: r => a = (36, 0) ∧ vp_in i n ∧ K nx ls ((.inl (xs i.toNatClampNeg)) :: r) kc ks G I J
  | _ => False
theorem ok_sld (h : decode (am_mB y) pc = .ok (.iaload, 1)) (hy : am_scy y = true) : am_ok l sc d y pc (am_sld sc.1 sc.2 (pc + 1)) := by
  intro K X P ls st kc ks G I J hK _ hs
  unfold am_sld at hs
  split at hs
  · rename_i i a r
    intro p R e s m args below meth c D cT A ad0 G0 Q ad H locs LS hC hM hc hn
    have hv := hM.sok
    simp only [List.forall_mem_cons] at hv
    obtain ⟨rfl, hi, hs⟩ := hs
    obtain ⟨hX, hbl, hbA⟩ := hM.2.2.2.2.2.2.2.1 hy
    exact va_sld hC.1.1 hC.1.2.1 hX hbl hbA hM.2.2.2.1 hi h (hK _ _ _ _ _ _ _ _ hs _ _ _ _ _ _ _ _ _ _ _ _ _ _ _ _ _ _ _ hC (hM.stk (List.forall_mem_cons.mpr ⟨trivial, hv.2.2⟩)) hc hn)
  · exact hs.elim
end AMH
end
section
/-! ===== the abstract machine's calls: contracts, entry, ends, throws, new cells ===== -/
def am_cat : am_V → Nat
  | .inr (.inl _) => 2
  | _ => 1
theorem am_cat_eq (ad : am_A → Nat) (v : am_V) : (am_cv ad v).category = am_cat v := by rcases v with x | x | a <;> rfl
theorem am_cat_sum (ad : am_A → Nat) (st : List am_V) : ((st.map (am_cv ad)).map fun v => v.category).sum = (st.map am_cat).sum := by
  rw [List.map_map]
  congr 1
  exact List.map_congr_left fun v _ => am_cat_eq ad v
def am_rm (d y : Nat) : Room := { frames := d, cells := am_mc y, slots := am_ms y, locals := 35 * d + 15 * (d - 9) }
def am_B (sz : Nat) (D : va_G) (cT : Nat → ClassId) (ad : am_A → Nat) (G : am_G) (I : am_I) (J : am_J) : State → Prop := fun U =>
  U.heap.size = sz ∧ va_P D am_cls (am_ww ad cT G I J) U.heap ∧ va_K D am_cls (am_tys cT) U ∧ va_D (fun _ => True) (am_ww ad cT G I J) ∧ am_Wd U ∧ vx_Zq Bundle.tN "UNASSIGNED_STACK" Bundle.steD (va_A (am_ww ad cT G I J) sz) U U.heap ∧ vx_Zq Bundle.tN "SUPPRESSED_SENTINEL" Bundle.listD (va_A (am_ww ad cT G I J) sz) U U.heap
/-- a method's contract: called in a world it comes to an end with P -/
def am_T (l : Launch) (d y : Nat) (as : List am_V) (G : am_G) (I : am_I) (J : am_J) (P : am_P) : Prop :=
  l.stackTraces = false → am_wf G → (∀ v ∈ as, am_vk G v) → ∀ (D : va_G) (cT : Nat → ClassId) (ad : am_A → Nat) (sz : Nat),
    vx_Met l (am_mY y) [am_cw y] (am_rm d y) (va_Pc (as.map (am_cv ad)) (am_B sz D cT ad G I J)) (am_Qc D cT (va_A (am_ww ad cT G I J) sz) ad G P) (am_Xc D cT (va_A (am_ww ad cT G I J) sz) ad G P) (am_mc y) (am_ms y) (va_A (am_ww ad cT G I J) sz)
theorem am_blind {av : List Value} {sz : Nat} {D : va_G} {cT : Nat → ClassId} {ad : am_A → Nat} {G : am_G} {I : am_I} {J : am_J} : FrameBlind (va_Pc av (am_B sz D cT ad G I J)) := by
  intro a U g mk q
  obtain ⟨q0, q1, q2, q3, q4, q5, q6, q7⟩ := q
  exact ⟨q0, q1, q2, va_K.moved (u := U) (U := U.calling g mk a) (Vm.Alike.refl U.vm) q3, q4, am_Wd.warm (s := U) (U := U.calling g mk a) (State.WarmedH.refl U) q5, vx_Zq.moved (u := U) (U := U.calling g mk a) (Vm.Alike.refl U.vm) q6, vx_Zq.moved (u := U) (U := U.calling g mk a) (Vm.Alike.refl U.vm) q7⟩
section AMR
variable {ad ad' : am_A → Nat} {G G' : am_G}
theorem am_cv_xt (hx : am_xt ad G ad' G') {v : am_V} (hv : am_vk G v) : am_cv ad' v = am_cv ad v := by
  rcases v with x | x | a
  · rfl
  · rfl
  · rcases hv with hv | hv
    · exact congrArg Value.ref (hx.1 a hv).2
    · exact congrArg Value.ref (hx.2 a hv)
theorem am_vk_xt (hx : am_xt ad G ad' G') {v : am_V} (hv : am_vk G v) : am_vk G' v := by
  rcases v with x | x | a
  · exact trivial
  · exact trivial
  · rcases hv with hv | hv
    · exact Or.inl (hx.1 a hv).1
    · exact Or.inr hv
theorem am_map_xt (hx : am_xt ad G ad' G') {st : List am_V} (hv : ∀ v ∈ st, am_vk G v) : st.map (am_cv ad') = st.map (am_cv ad) := List.map_congr_left fun v h => am_cv_xt hx (hv v h)
end AMR
section AMQ
variable {sc : Nat × (Nat → Int32)} {y : Nat} {ad0 ad ad' : am_A → Nat} {G0 G G' : am_G} {cT : Nat → ClassId} {D : va_G} {A A' : Nat → Prop} {s t : State} {H H' : Heap} {locs locs' : List Loc} {LS : Array Slot} {ls : am_L} {st st' : List am_V} {I I' : am_I} {J J' : am_J}
theorem am_M.go (hM : am_M sc y ad0 G0 ad cT D A s H locs LS ls st G I J) (hx : am_xt ad G ad' G') (hP : va_P D am_cls (am_ww ad' cT G' I' J') H') (hD : va_D A (am_ww ad' cT G' I' J')) (hw : am_wf G') (hS : va_S A s.heap H' locs') (hst : ∀ v ∈ st', am_vk G' v) : am_M sc y ad0 G0 ad' cT D A s H' locs' LS ls st' G' I' J' := by
  obtain ⟨h1, h2, h3, h4, h5, h6, h7, h8, h9, h10⟩ := hM
  refine ⟨⟨h1.1, h1.2.1, fun q hq => ?_⟩, hP, hD, hS, hw, hst, fun i v hv => am_vk_xt hx (h7 i v hv), fun hy => ?_, fun a ha => ?_, fun a ha => ?_⟩
  · obtain ⟨j, v, e1, rfl⟩ := am_cl_at ad' ls 0 q hq
    rw [am_cv_xt hx (h7 j v e1)]
    exact h1.2.2 _ (am_cl_in ad ls 0 j v e1)
  · obtain ⟨g1, g2, g3⟩ := h8 hy
    have e : ad' (36, 0) = ad (36, 0) := hx.2 (36, 0) rfl
    unfold am_scr
    rw [e]
    exact ⟨g1, g2, g3⟩
  · obtain ⟨g1, g2⟩ := h9 a ha
    obtain ⟨g3, g4⟩ := hx.1 a g1
    exact ⟨g3, g4.trans g2⟩
  · exact (hx.2 a ha).trans (h10 a ha)
theorem am_M.sub (hM : am_M sc y ad0 G0 ad cT D A s H locs LS ls st G I J) (hA : ∀ q : Nat, s.heap.size ≤ q → A q) : ∀ q : Nat, va_A (am_ww ad cT G I J) H.size q → A q := by
  intro q h
  rcases h with ⟨k, e, h⟩ | h
  · exact hM.2.2.1.2 k _ h
  · exact hA q (Nat.le_trans hM.2.2.2.1.1 h)
end AMQ
section AMF
variable {l : Launch} {sc : Nat × (Nat → Int32)} {d y : Nat} {P : am_P} {p : Program} {R : Room} {e : Env} {s : State} {m : MethodId} {args : Array Value} {below : List Frame} {meth : Method} {c : Code} {D : va_G} {cT : Nat → ClassId} {A : Nat → Prop} {ad0 ad : am_A → Nat} {G0 G : am_G} {Q : State → Prop} {H : Heap} {locs : List Loc} {LS : Array Slot} {ls : am_L} {st : List am_V} {I : am_I} {J : am_J} {kc ks pc : Nat}
theorem am_aft {Pn : am_P} {mc' ms' : Nat} {st0 : List Value} {as' : Array Value} (hA : ∀ q : Nat, s.heap.size ≤ q → A q) (hM : am_M sc y ad0 G0 ad cT D A s H locs LS ls st G I J) (rest : List am_V) (hvr : ∀ v ∈ rest, am_vk G v)
    (hr : vx_Run p l e R s m args below meth c H locs kc ks mc' ms' (F0 m pc LS st0) (rest.map (am_cv ad)) (am_Qc D cT (va_A (am_ww ad cT G I J) H.size) ad G Pn as') (am_Xc D cT (va_A (am_ww ad cT G I J) H.size) ad G Pn) (va_A (am_ww ad cT G I J) H.size))
    (kk : ∀ (v : Option am_V) (G' : am_G) (I' : am_I) (J' : am_J) (ad' : am_A → Nat) (H' : Heap) (locs' : List Loc), Pn (.inl v) G' I' J' → am_M sc y ad0 G0 ad' cT D A s H' locs' LS ls (v.toList ++ rest) G' I' J' → W p l e R s m args below meth c H' locs' (kc + mc') (ks + ms') Q (F0 m (pc + 3) LS ((v.toList ++ rest).map (am_cv ad'))))
    (kx : ∀ (n : Nat) (G' : am_G) (I' : am_I) (J' : am_J) (ad' : am_A → Nat) (H' : Heap) (locs' : List Loc) (q : Addr) (ce : Cell), 1 ≤ n → n ≤ 3 → Pn (.inr n) G' I' J' → am_M sc y ad0 G0 ad' cT D A s H' locs' LS ls rest G' I' J' → H'[q]? = some ce → ce.vm = .none → s.vm.findClass (am_en n) = some ce.cls → vx_W p l e R s m args below meth c H' locs' (kc + mc') (ks + ms') Q (F0 m pc LS (rest.map (am_cv ad'))) q) :
    W p l e R s m args below meth c H locs kc ks Q (F0 m pc LS st0) := by
  have hsub := hM.sub hA
  intro T hT X
  rcases hr T hT X with ⟨v, st₀, t, T', L, h0, X', hL, e1, e2, ⟨⟨v', G', I', J', ad', ho, hp, hvk, hP', hD', hw', hx'⟩, hF⟩, hst⟩ | ⟨q, st₀, t, T', L, E, ce, h0, X', hL, e1, e2, ⟨⟨n, G', I', J', ad', hE, hn1, hn3, hp, hP', hD', hw', hx'⟩, hF⟩, hce, hcv, hcl, hst⟩
  · cases ho
    obtain ⟨-, -, k3⟩ := vx_keep h0 e1 hM.2.2.2.1 (fun q _ h => hsub q h) hsub hL hF
    have hvs : ∀ w ∈ v'.toList ++ rest, am_vk G' w := by
      intro w hw
      rcases List.mem_append.mp hw with h | h
      · exact hvk w (Option.mem_toList.mp h)
      · exact am_vk_xt hx' (hvr w h)
    obtain ⟨t2, a1, b1⟩ := kk v' G' I' J' ad' T'.heap (locs ++ L) hp (hM.go hx' (by rw [e1]; exact hP') (hD'.weaken fun k q _ h => hsub q.1 h) hw' k3 hvs) T' rfl X'
    refine ⟨t2, hst t2 ?_, b1⟩
    rw [List.map_append, am_map_xt hx' hvr] at a1
    have e3 : (v'.map (am_cv ad')).toList = v'.toList.map (am_cv ad') := by cases v' <;> rfl
    rw [e3]
    exact a1
  · subst hE
    obtain ⟨-, -, k3⟩ := vx_keep h0 e1 hM.2.2.2.1 (fun q _ h => hsub q h) hsub hL hF
    obtain ⟨t2, a1, b1⟩ := kx n G' I' J' ad' T'.heap (locs ++ L) q ce hn1 hn3 hp (hM.go hx' (by rw [e1]; exact hP') (hD'.weaken fun k q _ h => hsub q.1 h) hw' k3 (fun w h => am_vk_xt hx' (hvr w h))) (by rw [e1]; exact hce) hcv hcl T' rfl X'
    refine ⟨t2, hst.trans ?_, b1⟩
    rw [am_map_xt hx' hvr] at a1
    exact a1
/-- a throw that goes on to the caller -/
theorem am_outw {n : Nat} {q : Addr} {ce : Cell} (hC : am_C l d y P p R e s m args below meth c D cT A ad0 G0 Q) (hmo : ¬ am_mo y = 1) (hH : am_mH y = []) (h1 : 1 ≤ n) (h3 : n ≤ 3) (hp : P (.inr n) G I J) (hM : am_M sc y ad0 G0 ad cT D A s H locs LS ls st G I J) (hc : kc ≤ am_mc y) (hn : ks ≤ am_ms y) (hce : H[q]? = some ce) (hcv : ce.vm = .none) (hcl : s.vm.findClass (am_en n) = some ce.cls) :
    vx_W p l e R s m args below meth c H locs kc ks Q (F0 m pc LS (st.map (am_cv ad))) q := by
  by_cases h2 : am_mo y = 2
  · exact absurd hp ((hC.2.2.2.2 h2).1 n G I J)
  · obtain ⟨hQ, htb⟩ := hC.2.2.2.1 h2
    rw [hQ]
    refine vx_out (fun x hx => ?_) hC.1.2.2.2.2.2.1 hce hcv hcl (fun t ht _ => ⟨⟨n, G, I, J, ad, rfl, h1, h3, hp, by rw [ht]; exact hM.2.1, hM.2.2.1, hM.2.2.2.2.1, hM.2.2.2.2.2.2.2.2⟩, hM.2.2.2.1.F ht⟩) (fun z hz => hM.2.2.2.1.2.2 z hz) hc hn
    rw [htb, hH] at hx
    simp [tableOf] at hx
end AMF
def am_k (X : am_K) (P : am_P) (nx : Nat) (ls : am_L) (r : List am_V) (kc ks : Nat) : am_P := fun o G I J => match o with
  | .inl none => X nx ls r kc ks G I J
  | .inl (some v) => X nx ls (v :: r) kc ks G I J
  | .inr n => P (.inr n) G I J
def am_rc : Option Nat → List am_V → Prop
  | none, _ => True
  | some ci, .inr (.inr a) :: _ => a.1 = ci
  | _, _ => False
def am_call (l : Launch) (d y y' : Nat) (rc : Option Nat) (n nx : Nat) : am_S := fun _ X P ls st kc ks G I J =>
  (n ≤ st.length ∧ ((st.drop n).map am_cat).sum ≤ 8 ∧ am_rc rc (st.take n).reverse ∧ kc + am_mc y' ≤ am_mc y ∧ ks + am_ms y' ≤ am_ms y) ∧
  am_T l d y' (st.take n).reverse G I J (am_k X P nx ls (st.drop n) (kc + am_mc y') (ks + am_ms y'))
section AMC
variable {l : Launch} {sc : Nat × (Nat → Int32)} {d y y' pc idx n : Nat}
theorem am_hws {s : State} (hcf : am_cf y') (hWd : am_Wd s) : ∀ w ∈ [am_cw y'], ∀ (a' : Array Value) (U : State), s.WarmedH U.vm → w.before a' U = true := by
  intro w hw a' U hW
  rw [List.mem_singleton.mp hw]
  exact am_sv_warm (List.mem_filter.mp hcf.1).2 hW (hWd.1 _ hcf.1)
theorem am_len {sig : MethodDescriptor} (hcf : am_cf y') (h : parseMethodDescriptor (am_mY y').desc = some sig) : am_np y' = sig.parameters.length := by
  have h2 := hcf.2.2.1.2.2
  rw [h] at h2
  exact (Option.some.inj h2).symm
theorem am_cw0 (h : ¬ am_mo y' = 1) : am_cw y' = .code (am_mY y') (am_mB y') (am_mL y') (am_mR y') := if_neg h
theorem am_callB {R : Room} {s : State} {args : Array Value} {own : String} (hcf : am_cf y') (hmo : ¬ am_mo y' = 1) (hlk : Cond.methodLink own idx (am_mY y') ∈ am_tb) (hWd : am_Wd s) (hf : d + 1 ≤ R.frames) (hl : 35 * (d + 1) + 15 * (d + 1 - 9) ≤ R.locals) (hml : am_mL y' ≤ 16 ∨ 9 ≤ d) :
    CallB R s args own idx (am_mY y') (am_mB y') (am_mL y') (am_mR y') [am_cw y'] (am_rm d y') (am_mc y') (am_ms y') (am_np y') :=
  ⟨rfl, rfl, hf, by have := hcf.2.2.2.2; show 8 + (am_mL y' + 11) + (35 * d + 15 * (d - 9)) ≤ _; omega, am_hws hcf hWd, by rw [am_cw0 hmo]; exact List.mem_singleton_self _, by rw [← am_cw0 hmo]; exact hWd.use hcf.1 args, hWd.use hcf.2.1 args, ⟨hcf.2.2.1.1, hcf.2.2.1.2.1⟩, fun sig h => am_len hcf h, hWd.use hlk args⟩
theorem am_callN {R : Room} {s : State} {args : Array Value} {own host : String} (hcf : am_cf y') (hmo : ¬ am_mo y' = 1) (hlk : Cond.methodLinkNest own idx (am_mY y') host ∈ am_tb) (hWd : am_Wd s) (hf : d + 1 ≤ R.frames) (hl : 35 * (d + 1) + 15 * (d + 1 - 9) ≤ R.locals) (hml : am_mL y' ≤ 16 ∨ 9 ≤ d) :
    va_CN R s args own idx (am_mY y') host (am_mB y') (am_mL y') (am_mR y') [am_cw y'] (am_rm d y') (am_mc y') (am_ms y') (am_np y') :=
  ⟨⟨rfl, rfl, hf, by have := hcf.2.2.2.2; show 8 + (am_mL y' + 11) + (35 * d + 15 * (d - 9)) ≤ _; omega, am_hws hcf hWd, by rw [am_cw0 hmo]; exact List.mem_singleton_self _⟩, by rw [← am_cw0 hmo]; exact hWd.use hcf.1 args, hWd.use hcf.2.1 args, ⟨hcf.2.2.1.1, hcf.2.2.1.2.1⟩, fun sig h => am_len hcf h, hWd.use hlk args⟩
/-- what a caller has for its callee's start -/
theorem am_pre {P : am_P} {p : Program} {R : Room} {e : Env} {s : State} {m : MethodId} {args : Array Value} {below : List Frame} {meth : Method} {c : Code} {D : va_G} {cT : Nat → ClassId} {A : Nat → Prop} {ad0 ad : am_A → Nat} {G0 G : am_G} {Q : State → Prop} {H : Heap} {locs : List Loc} {LS : Array Slot} {ls : am_L} {st : List am_V} {I : am_I} {J : am_J} {av : List Value}
    (hC : am_C l d y P p R e s m args below meth c D cT A ad0 G0 Q) (hM : am_M sc y ad0 G0 ad cT D A s H locs LS ls st G I J) : ∀ U : State, U.heap = H → s.WarmedH U.vm → va_Pc av (am_B H.size D cT ad G I J) av.toArray U := by
  intro U hU hW
  have hsub := hM.sub hC.2.1.2.2.1
  refine ⟨rfl, by rw [hU], by rw [hU]; exact hM.2.1, va_K.moved hW.alike hC.2.1.2.1, hM.2.2.1.weaken fun _ _ _ _ => trivial, am_Wd.warm hW hC.2.1.1, ?_, ?_⟩
  · rw [hU]
    exact vx_Zq.narrow (vx_Zq.moved hW.alike (hC.2.1.2.2.2.1.kept hM.2.2.2.1.2.1)) hsub
  · rw [hU]
    exact vx_Zq.narrow (vx_Zq.moved hW.alike (hC.2.1.2.2.2.2.kept hM.2.2.2.1.2.1)) hsub
/-- behind any call that isn't within a handler's reach -/
theorem am_cont {K X : am_K} {P : am_P} {p : Program} {R : Room} {e : Env} {s : State} {m : MethodId} {args : Array Value} {below : List Frame} {meth : Method} {c : Code} {D : va_G} {cT : Nat → ClassId} {A : Nat → Prop} {ad0 ad : am_A → Nat} {G0 G : am_G} {Q : State → Prop} {H : Heap} {locs : List Loc} {LS : Array Slot} {ls : am_L} {st rest : List am_V} {I : am_I} {J : am_J} {kc ks : Nat} {st0 : List Value} {as' : Array Value}
    (hX : ∀ pc ls st kc ks G I J, X pc ls st kc ks G I J → am_X l sc d y P pc ls st kc ks G I J) (hmo : ¬ am_mo y = 1) (hH : am_mH y = []) (hC : am_C l d y P p R e s m args below meth c D cT A ad0 G0 Q) (hM : am_M sc y ad0 G0 ad cT D A s H locs LS ls st G I J) (hvr : ∀ v ∈ rest, am_vk G v) (hc : kc + am_mc y' ≤ am_mc y) (hn : ks + am_ms y' ≤ am_ms y)
    (hr : vx_Run p l e R s m args below meth c H locs kc ks (am_mc y') (am_ms y') (F0 m pc LS st0) (rest.map (am_cv ad)) (am_Qc D cT (va_A (am_ww ad cT G I J) H.size) ad G (am_k X P (pc + 3) ls rest (kc + am_mc y') (ks + am_ms y')) as') (am_Xc D cT (va_A (am_ww ad cT G I J) H.size) ad G (am_k X P (pc + 3) ls rest (kc + am_mc y') (ks + am_ms y'))) (va_A (am_ww ad cT G I J) H.size)) :
    W p l e R s m args below meth c H locs kc ks Q (F0 m pc LS st0) := by
  refine am_aft hC.2.1.2.2.1 hM rest hvr hr ?_ ?_
  · intro v G' I' J' ad' H' locs' hp hM'
    rcases v with _ | v
    · exact hX _ _ _ _ _ _ _ _ hp _ _ _ _ _ _ _ _ _ _ _ _ _ _ _ _ _ _ _ hC hM' hc hn
    · exact hX _ _ _ _ _ _ _ _ hp _ _ _ _ _ _ _ _ _ _ _ _ _ _ _ _ _ _ _ hC hM' hc hn
  · intro n G' I' J' ad' H' locs' q ce h1 h3 hp hM' hce hcv hcl
    exact am_outw hC hmo hH h1 h3 hp hM' hc hn hce hcv hcl
theorem am_split {st : List am_V} {n : Nat} : st = ((st.take n).reverse).reverse ++ st.drop n := by rw [List.reverse_reverse, List.take_append_drop]
theorem am_recv {ci : Nat} {ad : am_A → Nat} {G : am_G} {cT : Nat → ClassId} {D : va_G} {s : State} {H : Heap} {I : am_I} {J : am_J} {a : am_A} (hK : va_K D am_cls (am_tys cT) s) (hP : va_P D am_cls (am_ww ad cT G I J) H) (ha : a ∈ G.1) (h1 : a.1 = ci) (hci : ci < 10) : ∃ cell : Cell, H[ad a]? = some cell ∧ cell.vm.isStatics = false ∧ s.vm.findClass (am_cN ci) = some cell.cls := by
  obtain ⟨q0, he, -⟩ := am_ww_at (ad := ad) (cT := cT) (I := I) (J := J) ha
  rw [am_ce_o (by omega), h1] at he
  exact va_recv hK hP (am_cls_at ci hci) he
theorem am_vsplit {G : am_G} {st : List am_V} (n : Nat) (h : ∀ v ∈ st, am_vk G v) : (∀ v ∈ (st.take n).reverse, am_vk G v) ∧ ∀ v ∈ st.drop n, am_vk G v :=
  ⟨fun v hv => h v (List.mem_of_mem_take (List.mem_reverse.mp hv)), fun v hv => h v (List.mem_of_mem_drop hv)⟩
theorem am_stk {ad : am_A → Nat} {st : List am_V} (n : Nat) : st.map (am_cv ad) = (((st.take n).reverse).map (am_cv ad)).reverse ++ (st.drop n).map (am_cv ad) := by
  rw [List.map_reverse, List.reverse_reverse, ← List.map_append, List.take_append_drop]
/-- the call of an instance method -/
theorem ok_callV {ci : Nat} (h : decode (am_mB y) pc = .ok (.invokevirtual idx, 3)) (hcf : am_cf y') (hmo : ¬ am_mo y' = 1) (hlk : Cond.methodLink (am_mY y).cls idx (am_mY y') ∈ am_tb ∨ ∃ host : String, Cond.methodLinkNest (am_mY y).cls idx (am_mY y') host ∈ am_tb) (hin : Cond.instanceMethod (am_mY y') ∈ am_tb) (hse : Cond.selects (am_mY y').cls (am_mY y') (am_mY y') ∈ am_tb) (hci : ci < 10 ∧ (am_mY y').cls = am_cN ci) (hnp : n = am_np y' + 1) (hy : ¬ am_mo y = 1 ∧ am_mH y = []) (hml : am_mL y' ≤ 16 ∨ 9 ≤ d) : am_ok l sc (d + 1) y pc (am_call l d y y' (some ci) n (pc + 3)) := by
  intro K X P ls st kc ks G I J _ hX hs
  intro p R e s m args below meth c D cT A ad0 G0 Q ad H locs LS hC hM hc hn
  obtain ⟨⟨h1, h2, h3, h4, h5⟩, hT⟩ := hs
  obtain ⟨hva, hvr⟩ := am_vsplit n hM.sok
  have hMet := hT hC.2.2.1.1 hM.2.2.2.2.1 hva D cT ad H.size
  have hlen : ((st.take n).reverse).length = n := by rw [List.length_reverse, List.length_take]; omega
  have hst := am_stk (ad := ad) (st := st) n
  generalize (st.take n).reverse = as at h3 hMet hva hst hlen
  match as, h3, hMet, hva, hst, hlen with
  | [], h3, _, _, _, _ => exact h3.elim
  | .inl _ :: _, h3, _, _, _, _ => exact h3.elim
  | .inr (.inl _) :: _, h3, _, _, _, _ => exact h3.elim
  | .inr (.inr a) :: As, h3, hMet, hva, hst, hlen =>
    have h3 : a.1 = ci := h3
    have haG : a ∈ G.1 := (List.forall_mem_cons.mp hva).1.resolve_right (by omega)
    have hrecv := am_recv hC.2.1.2.1 hM.2.1 haG h3 hci.1
    rw [← hci.2] at hrecv
    have hLS : (F0 m pc LS (st.map (am_cv ad))).locals.size = am_mL y := hM.1.1
    have hW8 : 2 * (F0 m pc LS (st.map (am_cv ad))).monitorRoom + (((st.drop n).map (am_cv ad)).map fun v => v.category).sum ≤ 8 := by rw [am_cat_sum]; show 2 * 0 + _ ≤ 8; omega
    have hAs : (As.map (am_cv ad)).length = am_np y' := by rw [List.length_map]; simp only [List.length_cons] at hlen; omega
    have hstk : st.map (am_cv ad) = (As.map (am_cv ad)).reverse ++ .ref (ad a) :: (st.drop n).map (am_cv ad) := by
      rw [hst]
      simp [am_cv]
    have hfit : kc + am_mc y' ≤ R.cells ∧ ks + am_ms y' ≤ R.slots := ⟨Nat.le_trans h4 hC.2.2.1.2.2.2.1, Nat.le_trans h5 hC.2.2.1.2.2.2.2⟩
    have hS : CallFix p m c (am_mB y) (am_mL y) s args ([] : List Jvm.Cond) (am_mY y).cls := ⟨hC.1.1, hC.1.2.1, hC.1.2.2.2.1, hC.1.2.2.2.2.1, fun _ h => nomatch h⟩
    have hpre : PreV s H (am_mY y').cls (ad a) (va_Pc ((vR a :: As).map (am_cv ad)) (am_B H.size D cT ad G I J)) (As.map (am_cv ad)) := ⟨am_blind, hrecv, am_pre hC hM⟩
    rcases hlk with hlk | ⟨host, hlk⟩
    · exact am_cont (K := K) hX hy.1 hy.2 hC hM hvr h4 h5 (vx_runV hS hMet ⟨am_callB hcf hmo hlk hC.2.1.1 hC.2.2.1.2.1 hC.2.2.1.2.2.1 hml, hC.2.1.1.use hin args, hC.2.1.1.use hse args⟩ hpre rfl hAs hLS hstk hW8 h hfit)
    · exact am_cont (K := K) hX hy.1 hy.2 hC hM hvr h4 h5 (vx_runVN hS hMet ⟨am_callN hcf hmo hlk hC.2.1.1 hC.2.2.1.2.1 hC.2.2.1.2.2.1 hml, hC.2.1.1.use hin args, hC.2.1.1.use hse args⟩ hpre rfl hAs hLS hstk hW8 h hfit)
/-- the call of a static method -/
theorem ok_callS (h : decode (am_mB y) pc = .ok (.invokestatic idx, 3)) (hcf : am_cf y') (hmo : ¬ am_mo y' = 1) (hlk : Cond.methodLink (am_mY y).cls idx (am_mY y') ∈ am_tb ∨ ∃ host : String, Cond.methodLinkNest (am_mY y).cls idx (am_mY y') host ∈ am_tb) (hst : Cond.static (am_mY y') ∈ am_tb) (hnp : n = am_np y') (hy : ¬ am_mo y = 1 ∧ am_mH y = []) (hml : am_mL y' ≤ 16 ∨ 9 ≤ d) : am_ok l sc (d + 1) y pc (am_call l d y y' none n (pc + 3)) := by
  intro K X P ls st kc ks G I J _ hX hs
  intro p R e s m args below meth c D cT A ad0 G0 Q ad H locs LS hC hM hc hn
  obtain ⟨⟨h1, h2, h3, h4, h5⟩, hT⟩ := hs
  obtain ⟨hva, hvr⟩ := am_vsplit n hM.sok
  have hMet := hT hC.2.2.1.1 hM.2.2.2.2.1 hva D cT ad H.size
  have hlen : ((st.take n).reverse).length = n := by rw [List.length_reverse, List.length_take]; omega
  have hstk := am_stk (ad := ad) (st := st) n
  have hLS : (F0 m pc LS (st.map (am_cv ad))).locals.size = am_mL y := hM.1.1
  have hW8 : 2 * (F0 m pc LS (st.map (am_cv ad))).monitorRoom + (((st.drop n).map (am_cv ad)).map fun v => v.category).sum ≤ 8 := by rw [am_cat_sum]; show 2 * 0 + _ ≤ 8; omega
  have hAs : (((st.take n).reverse).map (am_cv ad)).length = am_np y' := by rw [List.length_map, hlen, hnp]
  have hfit : kc + am_mc y' ≤ R.cells ∧ ks + am_ms y' ≤ R.slots := ⟨Nat.le_trans h4 hC.2.2.1.2.2.2.1, Nat.le_trans h5 hC.2.2.1.2.2.2.2⟩
  have hS : CallFix p m c (am_mB y) (am_mL y) s args ([] : List Jvm.Cond) (am_mY y).cls := ⟨hC.1.1, hC.1.2.1, hC.1.2.2.2.1, hC.1.2.2.2.2.1, fun _ h => nomatch h⟩
  have hpre : PreS s H (va_Pc (((st.take n).reverse).map (am_cv ad)) (am_B H.size D cT ad G I J)) (((st.take n).reverse).map (am_cv ad)) := ⟨am_blind, am_pre hC hM⟩
  rcases hlk with hlk | ⟨host, hlk⟩
  · exact am_cont (K := K) hX hy.1 hy.2 hC hM hvr h4 h5 (vx_runS hS hMet ⟨am_callB hcf hmo hlk hC.2.1.1 hC.2.2.1.2.1 hC.2.2.1.2.2.1 hml, hC.2.1.1.use hst args⟩ hpre rfl hAs hLS hstk hW8 h hfit)
  · exact am_cont (K := K) hX hy.1 hy.2 hC hM hvr h4 h5 (vx_runSN hS hMet ⟨am_callN hcf hmo hlk hC.2.1.1 hC.2.2.1.2.1 hC.2.2.1.2.2.1 hml, hC.2.1.1.use hst args, trivial⟩ hpre rfl hAs hLS hstk hW8 h hfit)
/-- the law's call of a method with handlers -/
theorem ok_callSX (h : decode (am_mB y) pc = .ok (.invokestatic idx, 3)) (hcf : am_cf y') (hmo : am_mo y' = 1) (hlk : Cond.methodLink (am_mY y).cls idx (am_mY y') ∈ am_tb) (hst : Cond.static (am_mY y') ∈ am_tb) (hnp : n = am_np y') (hy : ¬ am_mo y = 1 ∧ am_mH y = []) (hml : am_mL y' ≤ 16 ∨ 9 ≤ d) : am_ok l sc (d + 1) y pc (am_call l d y y' none n (pc + 3)) := by
  intro K X P ls st kc ks G I J _ hX hs
  intro p R e s m args below meth c D cT A ad0 G0 Q ad H locs LS hC hM hc hn
  obtain ⟨⟨h1, h2, h3, h4, h5⟩, hT⟩ := hs
  obtain ⟨hva, hvr⟩ := am_vsplit n hM.sok
  have hMet := hT hC.2.2.1.1 hM.2.2.2.2.1 hva D cT ad H.size
  have hlen : ((st.take n).reverse).length = n := by rw [List.length_reverse, List.length_take]; omega
  have hstk := am_stk (ad := ad) (st := st) n
  have hLS : (F0 m pc LS (st.map (am_cv ad))).locals.size = am_mL y := hM.1.1
  have hW8 : 2 * (F0 m pc LS (st.map (am_cv ad))).monitorRoom + (((st.drop n).map (am_cv ad)).map fun v => v.category).sum ≤ 8 := by rw [am_cat_sum]; show 2 * 0 + _ ≤ 8; omega
  have hAs : (((st.take n).reverse).map (am_cv ad)).length = am_np y' := by rw [List.length_map, hlen, hnp]
  have hfit : kc + am_mc y' ≤ R.cells ∧ ks + am_ms y' ≤ R.slots := ⟨Nat.le_trans h4 hC.2.2.1.2.2.2.1, Nat.le_trans h5 hC.2.2.1.2.2.2.2⟩
  have hS : CallFix p m c (am_mB y) (am_mL y) s args ([] : List Jvm.Cond) (am_mY y).cls := ⟨hC.1.1, hC.1.2.1, hC.1.2.2.2.1, hC.1.2.2.2.2.1, fun _ h => nomatch h⟩
  have hpre : PreS s H (va_Pc (((st.take n).reverse).map (am_cv ad)) (am_B H.size D cT ad G I J)) (((st.take n).reverse).map (am_cv ad)) := ⟨am_blind, am_pre hC hM⟩
  have hcw : am_cw y' = .codeWith (am_mY y') (am_mB y') (am_mL y') (am_mR y') (am_mH y') := if_pos hmo
  have hloc : 8 + (am_mL y' + 11) + (am_rm d y').locals ≤ R.locals := by have := hcf.2.2.2.2; have := hC.2.2.1.2.2.1; show 8 + (am_mL y' + 11) + (35 * d + 15 * (d - 9)) ≤ _; omega
  exact am_cont (K := K) hX hy.1 hy.2 hC hM hvr h4 h5 (vx_runSX (hh := am_mH y') hS hMet ⟨⟨rfl, rfl, hC.2.2.1.2.1, hloc, am_hws hcf hC.2.1.1, by rw [hcw]; exact List.mem_singleton_self _⟩, by rw [← hcw]; exact hC.2.1.1.use hcf.1 args, hC.2.1.1.use hcf.2.1 args, ⟨hcf.2.2.1.1, hcf.2.2.1.2.1⟩, fun sig h => am_len hcf h, hC.2.1.1.use hlk args, hC.2.1.1.use hst args⟩ hpre rfl hAs hLS hstk hW8 h hfit)
end AMC
end
section
/-! ===== the abstract machine: constructors, ends, throws, handlers, new cells, library calls, a method's entry ===== -/
section AME
variable {l : Launch} {sc : Nat × (Nat → Int32)} {d y y' pc idx n : Nat}
/-- the call of a constructor -/
theorem ok_callI {ci : Nat} (h : decode (am_mB y) pc = .ok (.invokespecial idx, 3)) (hcf : am_cf y') (hmo : ¬ am_mo y' = 1) (hlk : Cond.methodLink (am_mY y).cls idx (am_mY y') ∈ am_tb ∨ ∃ host : String, Cond.methodLinkNest (am_mY y).cls idx (am_mY y') host ∈ am_tb) (hin : Cond.instanceMethod (am_mY y') ∈ am_tb) (hini : (am_mY y').name = "<init>" ∧ am_mR y' = none) (hci : ci < 10) (hnp : n = am_np y' + 1) (hy : ¬ am_mo y = 1 ∧ am_mH y = []) (hml : am_mL y' ≤ 16 ∨ 9 ≤ d) : am_ok l sc (d + 1) y pc (am_call l d y y' (some ci) n (pc + 3)) := by
  intro K X P ls st kc ks G I J _ hX hs
  intro p R e s m args below meth c D cT A ad0 G0 Q ad H locs LS hC hM hc hn
  obtain ⟨⟨h1, h2, h3, h4, h5⟩, hT⟩ := hs
  obtain ⟨hva, hvr⟩ := am_vsplit n hM.sok
  have hMet := hT hC.2.2.1.1 hM.2.2.2.2.1 hva D cT ad H.size
  have hlen : ((st.take n).reverse).length = n := by rw [List.length_reverse, List.length_take]; omega
  have hst := am_stk (ad := ad) (st := st) n
  generalize (st.take n).reverse = as at h3 hMet hva hst hlen
  match as, h3, hMet, hva, hst, hlen with
  | [], h3, _, _, _, _ => exact h3.elim
  | .inl _ :: _, h3, _, _, _, _ => exact h3.elim
  | .inr (.inl _) :: _, h3, _, _, _, _ => exact h3.elim
  | .inr (.inr a) :: As, h3, hMet, hva, hst, hlen =>
    have hLS : (F0 m pc LS (st.map (am_cv ad))).locals.size = am_mL y := hM.1.1
    have hW8 : 2 * (F0 m pc LS (st.map (am_cv ad))).monitorRoom + (((st.drop n).map (am_cv ad)).map fun v => v.category).sum ≤ 8 := by rw [am_cat_sum]; show 2 * 0 + _ ≤ 8; omega
    have hAs : (As.map (am_cv ad)).length = am_np y' := by rw [List.length_map]; simp only [List.length_cons] at hlen; omega
    have hstk : st.map (am_cv ad) = (As.map (am_cv ad)).reverse ++ .ref (ad a) :: (st.drop n).map (am_cv ad) := by
      rw [hst]
      simp [am_cv]
    have hfit : kc + am_mc y' ≤ R.cells ∧ ks + am_ms y' ≤ R.slots := ⟨Nat.le_trans h4 hC.2.2.1.2.2.2.1, Nat.le_trans h5 hC.2.2.1.2.2.2.2⟩
    have hS : CallFix p m c (am_mB y) (am_mL y) s args ([] : List Jvm.Cond) (am_mY y).cls := ⟨hC.1.1, hC.1.2.1, hC.1.2.2.2.1, hC.1.2.2.2.2.1, fun _ h => nomatch h⟩
    have hpre : PreS s H (va_Pc ((vR a :: As).map (am_cv ad)) (am_B H.size D cT ad G I J)) (.ref (ad a) :: As.map (am_cv ad)) := ⟨am_blind, am_pre hC hM⟩
    rcases hlk with hlk | ⟨host, hlk⟩
    · have cb := am_callB (args := args) (R := R) (own := (am_mY y).cls) hcf hmo hlk hC.2.1.1 hC.2.2.1.2.1 hC.2.2.1.2.2.1 hml
      rw [hini.2] at cb
      exact am_cont (K := K) hX hy.1 hy.2 hC hM hvr h4 h5 (vx_runI hS hMet ⟨cb, hini.1, hC.2.1.1.use hin args⟩ hpre rfl hAs hLS hstk hW8 h hfit)
    · have cb := am_callN (args := args) (R := R) (own := (am_mY y).cls) hcf hmo hlk hC.2.1.1 hC.2.2.1.2.1 hC.2.2.1.2.2.1 hml
      rw [hini.2] at cb
      exact am_cont (K := K) hX hy.1 hy.2 hC hM hvr h4 h5 (vx_runIN hS hMet ⟨cb, hini.1, hC.2.1.1.use hin args⟩ hpre rfl hAs hLS hstk hW8 h hfit)
/-! ends -/
theorem am_retQ {P : am_P} {D : va_G} {cT : Nat → ClassId} {A : Nat → Prop} {ad0 ad : am_A → Nat} {G0 G : am_G} {s : State} {H : Heap} {locs : List Loc} {LS : Array Slot} {ls : am_L} {st : List am_V} {I : am_I} {J : am_J} {as : Array Value} {v : Option am_V} (hM : am_M sc y ad0 G0 ad cT D A s H locs LS ls st G I J) (hp : P (.inl v) G I J) (hv : ∀ w, v = some w → am_vk G w) : ∀ t : State, t.heap = H → s.WarmedH t.vm → am_Qc D cT A ad0 G0 P as s (.returned (v.map (am_cv ad))) t :=
  fun t ht _ => ⟨⟨v, G, I, J, ad, rfl, hp, hv, by rw [ht]; exact hM.2.1, hM.2.2.1, hM.2.2.2.2.1, hM.2.2.2.2.2.2.2.2⟩, hM.2.2.2.1.F ht⟩
/-- ireturn; z: the answer is a truth value -/
def am_iret (z : Bool) : am_S := fun _ _ P _ st _ _ G I J => match st with
  | [.inl x] => (z = true → x = 0 ∨ x = 1) ∧ P (.inl (some (.inl x))) G I J
  | _ => False
theorem ok_iret {z : Bool} (h : decode (am_mB y) pc = .ok (.ireturn, 1)) (hr : am_mR y = (if z = true then some .boolean else some .int)) : am_ok l sc d y pc (am_iret z) := by
  intro K X P ls st kc ks G I J _ _ hs
  unfold am_iret at hs
  split at hs
  · rename_i x
    intro p R e s m args below meth c D cT A ad0 G0 Q ad H locs LS hC hM hc hn
    obtain ⟨hz, hs⟩ := hs
    by_cases h2 : am_mo y = 2
    · exact (hC.2.2.2.2 h2).2 pc H locs kc ks LS (.inl x) ad G I J h hM.2.2.2.1.2.2 hc hn hs
    · rw [(hC.2.2.2.1 h2).1]
      refine vx_ret (W.widen hc hn ?_)
      have hlocks := hC.1.2.2.2.2.2.1
      have hq : ∀ t : State, t.heap = H → s.WarmedH t.vm → am_Qc D cT A ad0 G0 P args s (.returned (some (.int x))) t := am_retQ (v := some (vI x)) hM hs (fun w hw => by cases hw; exact trivial)
      cases z with
      | true => exact W.zret hC.1.1 hC.1.2.1 (hC.1.2.2.1.trans hr) (am_nz (hz rfl)).1 hq hM.2.2.2.1.2.2 h hlocks
      | false => exact W.iret hC.1.1 hC.1.2.1 (hC.1.2.2.1.trans hr) hq hM.2.2.2.1.2.2 h hlocks
  · exact hs.elim
def am_vret : am_S := fun _ _ P _ st _ _ G I J => match st with
  | [] => P (.inl none) G I J
  | _ => False
theorem ok_vret (h : decode (am_mB y) pc = .ok (.return_, 1)) (hr : am_mR y = none) (hmo : ¬ am_mo y = 2) : am_ok l sc d y pc am_vret := by
  intro K X P ls st kc ks G I J _ _ hs
  unfold am_vret at hs
  split at hs
  · intro p R e s m args below meth c D cT A ad0 G0 Q ad H locs LS hC hM hc hn
    rw [(hC.2.2.2.1 hmo).1]
    exact vx_ret (W.widen hc hn (W.vret hC.1.1 hC.1.2.1 (hC.1.2.2.1.trans hr) (am_retQ (v := none) hM hs (fun w hw => by cases hw)) hM.2.2.2.1.2.2 h hC.1.2.2.2.2.2.1))
  · exact hs.elim
def am_lret : am_S := fun _ _ P _ st _ _ G I J => match st with
  | [.inr (.inl x)] => P (.inl (some (.inr (.inl x)))) G I J
  | _ => False
theorem ok_lret (h : decode (am_mB y) pc = .ok (.lreturn, 1)) (hr : am_mR y = some .long) (hmo : ¬ am_mo y = 2) : am_ok l sc d y pc am_lret := by
  intro K X P ls st kc ks G I J _ _ hs
  unfold am_lret at hs
  split at hs
  · rename_i x
    intro p R e s m args below meth c D cT A ad0 G0 Q ad H locs LS hC hM hc hn
    rw [(hC.2.2.2.1 hmo).1]
    exact vx_ret (W.widen hc hn (W.lret hC.1.1 hC.1.2.1 (hC.1.2.2.1.trans hr) (am_retQ (v := some (vL x)) hM hs (fun w hw => by cases hw; exact trivial)) hM.2.2.2.1.2.2 h hC.1.2.2.2.2.2.1))
  · exact hs.elim
def am_aret : am_S := fun _ _ P _ st _ _ G I J => match st with
  | [.inr (.inr a)] => P (.inl (some (.inr (.inr a)))) G I J
  | _ => False
theorem ok_aret {C : String} (h : decode (am_mB y) pc = .ok (.areturn, 1)) (hr : am_mR y = some (.object C)) (hmo : ¬ am_mo y = 2) : am_ok l sc d y pc am_aret := by
  intro K X P ls st kc ks G I J _ _ hs
  unfold am_aret at hs
  split at hs
  · rename_i a
    intro p R e s m args below meth c D cT A ad0 G0 Q ad H locs LS hC hM hc hn
    rw [(hC.2.2.2.1 hmo).1]
    exact vx_ret (W.widen hc hn (W.aret hC.1.1 hC.1.2.1 (hC.1.2.2.1.trans hr) (Or.inl ⟨C, rfl⟩) (Or.inr ⟨ad a, rfl⟩) (am_retQ (v := some (vR a)) hM hs (fun w hw => by cases hw; exact hM.sok _ List.mem_cons_self)) hM.2.2.2.1.2.2 h hC.1.2.2.2.2.2.1))
  · exact hs.elim
/-! 'throw new E("..")', five instructions at once -/
def am_names : List String := ["java/lang/RuntimeException", "java/lang/Exception"]
def am_throw (y n : Nat) : am_S := fun _ _ P _ st kc ks G I J => st = [] ∧ kc + 1 ≤ am_mc y ∧ ks + 6 ≤ am_ms y ∧ P (.inr n) G I J
/-- the words of a throw: of the class, of its constructor -/
def am_tw (y n ik ic : Nat) : Prop := (1 ≤ n ∧ n ≤ 3) ∧ Cond.classLink (am_mY y).cls ik (am_en n) ∈ am_tb ∧ Cond.initialized (am_en n) ∈ am_tb ∧ (∀ w ∈ vx_atS (am_mY y).cls ic (am_en n) am_names, w ∈ am_tb) ∧ (∀ w ∈ Cond.classLink (am_mY y).cls ik (am_en n) :: Cond.initialized (am_en n) :: vx_atS (am_mY y).cls ic (am_en n) am_names, vx_ot w = true) ∧ Bundle.fit (am_en n) = true ∧ ∀ n ∈ am_names, Bundle.fit n = true
theorem am_thrown {P : am_P} {s : State} {D : va_G} {cT : Nat → ClassId} {A : Nat → Prop} {ad0 ad : am_A → Nat} {G0 G : am_G} {H : Heap} {locs : List Loc} {LS : Array Slot} {ls : am_L} {st : List am_V} {I : am_I} {J : am_J} (hn13 : 1 ≤ n ∧ n ≤ 3) (hM : am_M sc y ad0 G0 ad cT D A s H locs LS ls st G I J) (hp : P (.inr n) G I J) :
    ∀ t : State, s.vm.Alike t.vm → H.size ≤ t.heap.size → (∀ q : Nat, q < H.size → t.heap[q]? = H[q]?) → am_Xc D cT A ad0 G0 P (am_en n) s t := by
  intro t _ hz hq
  refine ⟨⟨n, G, I, J, ad, rfl, hn13.1, hn13.2, hp, hM.2.1.kept fun k q h => hq q.1 (vx_lt hM.2.1 h), hM.2.2.1, hM.2.2.2.2.1, hM.2.2.2.2.2.2.2.2⟩, Nat.le_trans hM.2.2.2.1.1 hz, fun q h1 h2 => ?_⟩
  rw [hq q (Nat.lt_of_lt_of_le h1 hM.2.2.2.1.1)]
  exact hM.2.2.2.1.2.1 q h1 h2
theorem ok_throw {ik is ic : Nat} {text : String} (hw : am_tw y n ik ic) (hstr : ((am_mY y).cls, is, text) ∈ am_str) (d0 : decode (am_mB y) pc = .ok (.new ik, 3)) (d3 : decode (am_mB y) (pc + 3) = .ok (.dup, 1)) (d4 : decode (am_mB y) (pc + 4) = .ok (.ldc is, 2)) (d6 : decode (am_mB y) (pc + 6) = .ok (.invokespecial ic, 3)) (d9 : decode (am_mB y) (pc + 9) = .ok (.athrow, 1)) (hd : 6 ≤ d) (hmo : ¬ am_mo y = 2) (hH : am_mH y = []) : am_ok l sc d y pc (am_throw y n) := by
  intro K X P ls st kc ks G I J _ _ hs
  intro p R e s m args below meth c D cT A ad0 G0 Q ad H locs LS hC hM hc hn
  obtain ⟨rfl, h1, h2, hp⟩ := hs
  obtain ⟨hQ, htb⟩ := hC.2.2.2.1 hmo
  obtain ⟨sa, hsa⟩ := hC.2.1.1.2.2.1 _ hstr
  rw [hQ]
  have hRf := hC.2.2.1.2.1
  have hRl := hC.2.2.1.2.2.1
  exact vx_throwS (names := am_names) (mc := am_mc y) (ms := am_ms y) hC.1.1 hC.1.2.1 hC.2.2.1.1 hC.1.2.2.2.2.1 hw.2.2.2.2.2.1 hw.2.2.2.2.2.2 (hC.2.1.1.use hw.2.1 args) (hC.2.1.1.use hw.2.2.1 args) hsa (fun w h => hC.2.1.1.use (hw.2.2.2.1 w h) args) hw.2.2.2.2.1 hC.2.1.2.2.2.1 hC.2.1.2.2.2.2 hM.2.2.2.1 (hM.1.1.trans hC.1.2.2.2.1.symm) d0 d3 d4 d6 d9
    (fun x hx => by rw [htb, hH] at hx; simp [tableOf] at hx) (by show 2 + 3 < R.frames; omega) (by show 0 + (13 * (2 + 1) + 43) ≤ R.locals; omega) (Nat.le_trans h1 hC.2.2.1.2.2.2.1) (Nat.le_trans h2 hC.2.2.1.2.2.2.2) hC.1.2.2.2.2.2.1 (am_thrown hw.1 hM hp) hM.2.2.2.1.2.2 h1 h2
theorem ok_throwW {ik is ic : Nat} {text : String} (hw : am_tw y n ik ic) (hstr : ((am_mY y).cls, is, text) ∈ am_str) (d0 : decode (am_mB y) pc = .ok (.new ik, 3)) (d3 : decode (am_mB y) (pc + 3) = .ok (.dup, 1)) (d4 : decode (am_mB y) (pc + 4) = .ok (.ldc_w is, 3)) (d7 : decode (am_mB y) (pc + 7) = .ok (.invokespecial ic, 3)) (d10 : decode (am_mB y) (pc + 10) = .ok (.athrow, 1)) (hd : 6 ≤ d) (hmo : ¬ am_mo y = 2) (hH : am_mH y = []) : am_ok l sc d y pc (am_throw y n) := by
  intro K X P ls st kc ks G I J _ _ hs
  intro p R e s m args below meth c D cT A ad0 G0 Q ad H locs LS hC hM hc hn
  obtain ⟨rfl, h1, h2, hp⟩ := hs
  obtain ⟨hQ, htb⟩ := hC.2.2.2.1 hmo
  obtain ⟨sa, hsa⟩ := hC.2.1.1.2.2.1 _ hstr
  rw [hQ]
  have hRf := hC.2.2.1.2.1
  have hRl := hC.2.2.1.2.2.1
  exact vx_throwSW (names := am_names) (mc := am_mc y) (ms := am_ms y) hC.1.1 hC.1.2.1 hC.2.2.1.1 hC.1.2.2.2.2.1 hw.2.2.2.2.2.1 hw.2.2.2.2.2.2 (hC.2.1.1.use hw.2.1 args) (hC.2.1.1.use hw.2.2.1 args) hsa (fun w h => hC.2.1.1.use (hw.2.2.2.1 w h) args) hw.2.2.2.2.1 hC.2.1.2.2.2.1 hC.2.1.2.2.2.2 hM.2.2.2.1 (hM.1.1.trans hC.1.2.2.2.1.symm) d0 d3 d4 d7 d10
    (fun x hx => by rw [htb, hH] at hx; simp [tableOf] at hx) (by show 2 + 3 < R.frames; omega) (by show 0 + (13 * (2 + 1) + 43) ≤ R.locals; omega) (Nat.le_trans h1 hC.2.2.1.2.2.2.1) (Nat.le_trans h2 hC.2.2.1.2.2.2.2) hC.1.2.2.2.2.2.1 (am_thrown hw.1 hM hp) hM.2.2.2.1.2.2 h1 h2
/-! library calls -/
def am_mmax (nx : Nat) : am_S := fun K _ _ ls st kc ks G I J => match st with
  | (.inl b) :: (.inl a) :: r => r.length ≤ 8 ∧ K nx ls ((.inl (if a < b then b else a)) :: r) kc ks G I J
  | _ => False
def am_mmin (nx : Nat) : am_S := fun K _ _ ls st kc ks G I J => match st with
  | (.inl b) :: (.inl a) :: r => r.length ≤ 8 ∧ K nx ls ((.inl (if b < a then b else a)) :: r) kc ks G I J
  | _ => False
theorem am_cat_le (r : List am_V) : (r.map am_cat).sum ≤ 2 * r.length := by
  induction r with
  | nil => exact Nat.le_refl _
  | cons v r ih =>
    have : am_cat v ≤ 2 := by rcases v with x | x | x <;> simp [am_cat]
    simp only [List.map_cons, List.sum_cons, List.length_cons]
    omega
theorem ok_mmax (h : decode (am_mB y) pc = .ok (.invokestatic idx, 3)) (hl : Cond.methodLink (am_mY y).cls idx Lib.Math.max.name ∈ am_tb) (hs0 : Cond.static Lib.Math.max.name ∈ am_tb) (hi : Cond.initialized "java/lang/Math" ∈ am_tb) (hc0 : Cond.code Lib.Math.max.name Lib.Math.max.code 2 (some .int) ∈ am_tb) (hd : 1 ≤ d) : am_ok l sc d y pc (am_mmax (pc + 3)) := by
  intro K X P ls st kc ks G I J hK _ hs
  unfold am_mmax at hs
  split at hs
  · rename_i b a r
    intro p R e s m args below meth c D cT A ad0 G0 Q ad H locs LS hC hM hc hn
    have hv := hM.sok
    simp only [List.forall_mem_cons] at hv
    have hRf := hC.2.2.1.2.1
    have hRl := hC.2.2.1.2.2.1
    have := am_cat_le r
    refine va_mmax hC.1.1 hC.1.2.1 (hC.1.2.2.2.1.trans hM.1.1.symm) hC.1.2.2.2.2.1 (hC.2.1.1.use hl args) (hC.2.1.1.use hs0 args) (hC.2.1.1.use hi args) (hC.2.1.1.use hc0 args) (by omega) (by rw [am_cat_sum]; have := hs.1; omega) (Nat.le_trans hc hC.2.2.1.2.2.2.1) (Nat.le_trans hn hC.2.2.1.2.2.2.2) h ?_
    exact hK _ _ _ _ _ _ _ _ hs.2 _ _ _ _ _ _ _ _ _ _ _ _ _ _ _ _ _ _ _ hC (hM.stk (List.forall_mem_cons.mpr ⟨trivial, hv.2.2⟩)) hc hn
  · exact hs.elim
theorem ok_mmin (h : decode (am_mB y) pc = .ok (.invokestatic idx, 3)) (hl : Cond.methodLink (am_mY y).cls idx Lib.Math.min.name ∈ am_tb) (hs0 : Cond.static Lib.Math.min.name ∈ am_tb) (hi : Cond.initialized "java/lang/Math" ∈ am_tb) (hc0 : Cond.code Lib.Math.min.name Lib.Math.min.code 2 (some .int) ∈ am_tb) (hd : 1 ≤ d) : am_ok l sc d y pc (am_mmin (pc + 3)) := by
  intro K X P ls st kc ks G I J hK _ hs
  unfold am_mmin at hs
  split at hs
  · rename_i b a r
    intro p R e s m args below meth c D cT A ad0 G0 Q ad H locs LS hC hM hc hn
    have hv := hM.sok
    simp only [List.forall_mem_cons] at hv
    have hRf := hC.2.2.1.2.1
    have hRl := hC.2.2.1.2.2.1
    have := am_cat_le r
    refine va_mmin hC.1.1 hC.1.2.1 (hC.1.2.2.2.1.trans hM.1.1.symm) hC.1.2.2.2.2.1 (hC.2.1.1.use hl args) (hC.2.1.1.use hs0 args) (hC.2.1.1.use hi args) (hC.2.1.1.use hc0 args) (by omega) (by rw [am_cat_sum]; have := hs.1; omega) (Nat.le_trans hc hC.2.2.1.2.2.2.1) (Nat.le_trans hn hC.2.2.1.2.2.2.2) h ?_
    exact hK _ _ _ _ _ _ _ _ hs.2 _ _ _ _ _ _ _ _ _ _ _ _ _ _ _ _ _ _ _ hC (hM.stk (List.forall_mem_cons.mpr ⟨trivial, hv.2.2⟩)) hc hn
  · exact hs.elim
/-- System.arraycopy of ints -/
def am_acp (nx : Nat) : am_S := fun K _ _ ls st kc ks G I J => match st with
  | [.inl k, .inl dp, .inr (.inr a), .inl sp, .inr (.inr a0)] => (am_at a.1 = 0 ∧ am_at a0.1 = 0) ∧ (¬ sp < 0 ∧ ¬ dp < 0 ∧ ¬ k < 0 ∧ sp.toNatClampNeg + k.toNatClampNeg ≤ am_an a0.1 ∧ dp.toNatClampNeg + k.toNatClampNeg ≤ am_an a.1) ∧ K nx ls [] kc ks G (am_cpI I a0 a sp.toNatClampNeg dp.toNatClampNeg k.toNatClampNeg) J
  | _ => False
theorem ok_acp (h : decode (am_mB y) pc = .ok (.invokestatic idx, 3)) (hl : Cond.methodLink (am_mY y).cls idx arraycopyName ∈ am_tb) (hna : Cond.native arraycopyName ∈ am_tb) (hs0 : Cond.static arraycopyName ∈ am_tb) (hi : Cond.initialized "java/lang/System" ∈ am_tb) (hd : 1 ≤ d ∧ nativeFrameWords "java/lang/System" "arraycopy" 5 + 11 ≤ 35 * d) : am_ok l sc d y pc (am_acp (pc + 3)) := by
  intro K X P ls st kc ks G I J hK _ hs
  unfold am_acp at hs
  split at hs
  · rename_i k dp a sp a0
    intro p R e s m args below meth c D cT A ad0 G0 Q ad H locs LS hC hM hc hn
    have hv := hM.sok
    simp only [List.forall_mem_cons] at hv
    obtain ⟨⟨t1, t0⟩, ⟨g1, g2, g3, g4, g5⟩, hs⟩ := hs
    have h36 := am_at_small a.1 (by omega)
    have h36' := am_at_small a0.1 (by omega)
    have hRf := hC.2.2.1.2.1
    have hRl := hC.2.2.1.2.2.1
    obtain ⟨q1, he1, hq1⟩ := am_ww_at (ad := ad) (cT := cT) (I := I) (J := J) (hM.inG hv.2.2.1 (by omega))
    obtain ⟨q0, he0, -⟩ := am_ww_at (ad := ad) (cT := cT) (I := I) (J := J) (hM.inG hv.2.2.2.2.1 (by omega))
    rw [am_ce_i t1 (by decide)] at he1
    rw [am_ce_i t0 (by decide)] at he0
    refine va_copyi (rest := []) hC.1.1 hC.1.2.1 (hC.1.2.2.2.1.trans hM.1.1.symm) hC.1.2.2.2.2.1 (hC.2.1.1.use hl args) (hC.2.1.1.use hna args) (hC.2.1.1.use hs0 args) (hC.2.1.1.use hi args) hC.2.1.2.1 hM.2.1 hM.2.2.1 hM.2.2.2.1 q0 q1 0 0 he0 he1 (am_ty_at cT 0 (by decide)) (am_ty_at cT 0 (by decide)) rfl g1 g2 g3 g4 g5 (fun _ _ => rfl) (by omega) (by show 0 + (_ + 11) ≤ _; omega) h (fun H1 locs1 hP1 hD1 hS1 => ?_)
    rw [am_ww_set (G' := G) (I' := am_cpI I a0 a sp.toNatClampNeg dp.toNatClampNeg k.toNatClampNeg) (J' := J) hM.2.2.1 hq1 rfl (by rw [am_ce_i t1 (by decide)]; simp [am_cpI]) (fun b _ hb => am_ce_eq (fun _ => rfl) (by simp [am_cpI, hb]) rfl)] at hP1 hD1
    exact hK _ _ _ _ _ _ _ _ hs _ _ _ _ _ _ _ _ _ _ _ _ _ _ _ _ _ _ _ hC (hM.wld rfl hP1 hD1 hS1 hM.2.2.2.2.1 (fun _ h => nomatch h)) hc hn
  · exact hs.elim
/-- Object.<init> -/
def am_oinit (nx : Nat) : am_S := fun K _ _ ls st kc ks G I J => match st with
  | [.inr (.inr _)] => K nx ls [] kc ks G I J
  | _ => False
theorem ok_oinit (h : decode (am_mB y) pc = .ok (.invokespecial idx, 3)) (hl : Cond.methodLink (am_mY y).cls idx Lib.objectInit ∈ am_tb) (hi : Cond.instanceMethod Lib.objectInit ∈ am_tb) (hc0 : Cond.code Lib.objectInit ⟨#[0xb1]⟩ 1 none ∈ am_tb) (hd : 1 ≤ d) : am_ok l sc d y pc (am_oinit (pc + 3)) := by
  intro K X P ls st kc ks G I J hK _ hs
  unfold am_oinit at hs
  split at hs
  · rename_i a
    intro p R e s m args below meth c D cT A ad0 G0 Q ad H locs LS hC hM hc hn
    have hRf := hC.2.2.1.2.1
    have hRl := hC.2.2.1.2.2.1
    refine W.objInit (rest := []) hC.1.1 hC.1.2.1 hC.1.2.2.2.2.1 (hC.2.1.1.use hl args) (hC.2.1.1.use hi args) (hC.2.1.1.use hc0 args) rfl (hM.1.1.trans hC.1.2.2.2.1.symm) rfl h (by omega) (by show 2 * 0 + 0 + 12 ≤ _; omega) ?_
    exact hK _ _ _ _ _ _ _ _ hs _ _ _ _ _ _ _ _ _ _ _ _ _ _ _ _ _ _ _ hC (hM.stk (fun _ h => nomatch h)) hc hn
  · exact hs.elim
end AME
end
section
/-! ===== the abstract machine: handlers, new cells, a method's entry, runs ===== -/
section AMX
variable {l : Launch} {sc : Nat × (Nat → Int32)} {d y y' pc idx n : Nat}
def am_fnd : List (Nat × Int64) → Nat → Option Int64
  | [], _ => none
  | q :: r, e => if e = q.1 then some q.2 else am_fnd r e
/-- the handler's rows, as the law's own have them: the throw is put away, a number answered -/
def am_hd (y pc e : Nat) (k : Int64) : Prop := ∃ (pre : List (Nat × Nat × Nat × Nat)) (x : Nat × Nat × Nat × Nat) (suf : List (Nat × Nat × Nat × Nat)), am_mH y = pre ++ x :: suf ∧ (x.1 ≤ pc ∧ pc < x.2.1) ∧ x.2.2.2 ≠ 0 ∧ Cond.classLink (am_mY y).cls x.2.2.2 (am_en e) ∈ am_tb ∧ Cond.castable (am_en e) (am_en e) ∈ am_tb ∧
  (∀ z ∈ pre, z.2.2.2 ≠ 0 ∧ ∃ e' : Nat, Cond.classLink (am_mY y).cls z.2.2.2 (am_en e') ∈ am_tb ∧ (am_en e, am_en e') ∈ am_nc) ∧
  (∃ w : Nat, ((∃ i : Fin 4, decode (am_mB y) x.2.2.1 = .ok (.astore_n i, 1) ∧ w = 1 ∧ (i : Nat) < am_mL y) ∨ ∃ i : Nat, decode (am_mB y) x.2.2.1 = .ok (.astore i, 2) ∧ w = 2 ∧ i < am_mL y) ∧ (∃ v : Nat, decode (am_mB y) (x.2.2.1 + w) = .ok (.ldc2_w v, 3) ∧ Cond.constantLong (am_mY y).cls v k ∈ am_tb) ∧ decode (am_mB y) (x.2.2.1 + w + 3) = .ok (.lreturn, 1)) ∧ am_mR y = some .long
theorem am_hd_ok {P : am_P} {p : Program} {R : Room} {e : Env} {s : State} {m : MethodId} {args : Array Value} {below : List Frame} {meth : Method} {c : Code} {D : va_G} {cT : Nat → ClassId} {A : Nat → Prop} {ad0 ad : am_A → Nat} {G0 G : am_G} {Q : State → Prop} {H : Heap} {locs : List Loc} {LS : Array Slot} {ls : am_L} {st : List am_V} {I : am_I} {J : am_J} {kc ks : Nat} {q : Addr} {ce : Cell} {k : Int64} {rest : List Value} (hh : am_hd y pc n k) (hC : am_C l d y P p R e s m args below meth c D cT A ad0 G0 Q) (hmo : ¬ am_mo y = 2) (hM : am_M sc y ad0 G0 ad cT D A s H locs LS ls st G I J) (hc : kc ≤ am_mc y) (hn : ks ≤ am_ms y) (hp : P (.inl (some (.inr (.inl k)))) G I J) (hce : H[q]? = some ce) (hcv : ce.vm = .none) (hcl : s.vm.findClass (am_en n) = some ce.cls) :
    vx_W p l e R s m args below meth c H locs kc ks Q (F0 m pc LS rest) q := by
  obtain ⟨pre, x, suf, htb, hcov, hx0, hlk, hca, hpre, ⟨w, hst, ⟨v, hd1, hv⟩, hd2⟩, hr⟩ := hh
  obtain ⟨hQ, htab⟩ := hC.2.2.2.1 hmo
  have hsplit : c.exceptionTable.toList = tableOf pre ++ (⟨x.1, x.2.1, x.2.2.1, x.2.2.2⟩ : ExceptionTableEntry) :: tableOf suf := by
    rw [htab, htb]
    simp [tableOf]
  have hend : ∀ LS' : Array Slot, W p l e R s m args below meth c H locs kc ks Q (F0 m (x.2.2.1 + w) LS' []) := by
    intro LS'
    refine lv_ldc2 hC.1.1 hC.1.2.1 hC.1.2.2.2.2.1 (hC.2.1.1.use hv args) hd1 ?_
    rw [hQ]
    refine vx_ret (W.widen hc hn ?_)
    exact W.lret hC.1.1 hC.1.2.1 (hC.1.2.2.1.trans hr) (am_retQ (v := some (vL k)) hM hp (fun w hw => by cases hw; exact trivial)) hM.2.2.2.1.2.2 hd2 hC.1.2.2.2.2.2.1
  refine vx_catch (E := am_en n) (name := am_en n) hC.1.2.2.2.2.1 (tableOf pre) ⟨x.1, x.2.1, x.2.2.1, x.2.2.2⟩ (tableOf suf) hsplit ?_ ?_ hx0 (hC.2.1.1.use hlk args) (hC.2.1.1.use hca args) hce hcv hcl ?_
  · intro z hz
    obtain ⟨q, hq, rfl⟩ := List.mem_map.mp hz
    obtain ⟨hz0, e', hl1, hn1⟩ := hpre q hq
    exact Or.inr ⟨hz0, am_en e', hC.2.1.1.use hl1 args, hC.2.1.1.2.2.2 _ hn1⟩
  · simp [covers, hcov.1, hcov.2]
  · rcases hst with ⟨i, hd0, rfl, hi⟩ | ⟨i, hd0, rfl, hi⟩
    · exact lv_astore_n hC.1.1 hC.1.2.1 hd0 rfl hM.1 hi rfl (fun LS' _ => hend LS')
    · exact lv_astore hC.1.1 hC.1.2.1 hd0 hM.1 hi rfl (fun LS' _ => hend LS')
def am_kH (X : am_K) (P : am_P) (hs : List (Nat × Int64)) (nx : Nat) (ls : am_L) (r : List am_V) (kc ks : Nat) : am_P := fun o G I J => match o with
  | .inl none => X nx ls r kc ks G I J
  | .inl (some v) => X nx ls (v :: r) kc ks G I J
  | .inr n => match am_fnd hs n with
    | some k => P (.inl (some (.inr (.inl k)))) G I J
    | none => False
/-- a call within the reach of handlers -/
def am_callH (l : Launch) (d y y' : Nat) (rc : Option Nat) (n : Nat) (hs : List (Nat × Int64)) (nx : Nat) : am_S := fun _ X P ls st kc ks G I J =>
  (n ≤ st.length ∧ ((st.drop n).map am_cat).sum ≤ 8 ∧ am_rc rc (st.take n).reverse ∧ kc + am_mc y' ≤ am_mc y ∧ ks + am_ms y' ≤ am_ms y) ∧
  am_T l d y' (st.take n).reverse G I J (am_kH X P hs nx ls (st.drop n) (kc + am_mc y') (ks + am_ms y'))
theorem ok_callH {ci : Nat} {hs0 : List (Nat × Int64)} (h : decode (am_mB y) pc = .ok (.invokevirtual idx, 3)) (hcf : am_cf y') (hmo : ¬ am_mo y' = 1) (hlk : Cond.methodLink (am_mY y).cls idx (am_mY y') ∈ am_tb) (hin : Cond.instanceMethod (am_mY y') ∈ am_tb) (hse : Cond.selects (am_mY y').cls (am_mY y') (am_mY y') ∈ am_tb) (hci : ci < 10 ∧ (am_mY y').cls = am_cN ci) (hnp : n = am_np y' + 1) (hy : ¬ am_mo y = 2) (hml : am_mL y' ≤ 16 ∨ 9 ≤ d) (hh : ∀ (e : Nat) (k : Int64), am_fnd hs0 e = some k → am_hd y pc e k) : am_ok l sc (d + 1) y pc (am_callH l d y y' (some ci) n hs0 (pc + 3)) := by
  intro K X P ls st kc ks G I J _ hX hs
  intro p R e s m args below meth c D cT A ad0 G0 Q ad H locs LS hC hM hc hn
  obtain ⟨⟨h1, h2, h3, h4, h5⟩, hT⟩ := hs
  obtain ⟨hva, hvr⟩ := am_vsplit n hM.sok
  have hMet := hT hC.2.2.1.1 hM.2.2.2.2.1 hva D cT ad H.size
  have hlen : ((st.take n).reverse).length = n := by rw [List.length_reverse, List.length_take]; omega
  have hst := am_stk (ad := ad) (st := st) n
  generalize (st.take n).reverse = as at h3 hMet hva hst hlen
  match as, h3, hMet, hva, hst, hlen with
  | [], h3, _, _, _, _ => exact h3.elim
  | .inl _ :: _, h3, _, _, _, _ => exact h3.elim
  | .inr (.inl _) :: _, h3, _, _, _, _ => exact h3.elim
  | .inr (.inr a) :: As, h3, hMet, hva, hst, hlen =>
    have h3 : a.1 = ci := h3
    have haG : a ∈ G.1 := (List.forall_mem_cons.mp hva).1.resolve_right (by omega)
    have hrecv := am_recv hC.2.1.2.1 hM.2.1 haG h3 hci.1
    rw [← hci.2] at hrecv
    have hLS : (F0 m pc LS (st.map (am_cv ad))).locals.size = am_mL y := hM.1.1
    have hW8 : 2 * (F0 m pc LS (st.map (am_cv ad))).monitorRoom + (((st.drop n).map (am_cv ad)).map fun v => v.category).sum ≤ 8 := by rw [am_cat_sum]; show 2 * 0 + _ ≤ 8; omega
    have hAs : (As.map (am_cv ad)).length = am_np y' := by rw [List.length_map]; simp only [List.length_cons] at hlen; omega
    have hstk : st.map (am_cv ad) = (As.map (am_cv ad)).reverse ++ .ref (ad a) :: (st.drop n).map (am_cv ad) := by
      rw [hst]
      simp [am_cv]
    have hfit : kc + am_mc y' ≤ R.cells ∧ ks + am_ms y' ≤ R.slots := ⟨Nat.le_trans h4 hC.2.2.1.2.2.2.1, Nat.le_trans h5 hC.2.2.1.2.2.2.2⟩
    have hS : CallFix p m c (am_mB y) (am_mL y) s args ([] : List Jvm.Cond) (am_mY y).cls := ⟨hC.1.1, hC.1.2.1, hC.1.2.2.2.1, hC.1.2.2.2.2.1, fun _ h => nomatch h⟩
    have hpre : PreV s H (am_mY y').cls (ad a) (va_Pc ((vR a :: As).map (am_cv ad)) (am_B H.size D cT ad G I J)) (As.map (am_cv ad)) := ⟨am_blind, hrecv, am_pre hC hM⟩
    refine am_aft hC.2.1.2.2.1 hM (st.drop n) hvr (vx_runV hS hMet ⟨am_callB hcf hmo hlk hC.2.1.1 hC.2.2.1.2.1 hC.2.2.1.2.2.1 hml, hC.2.1.1.use hin args, hC.2.1.1.use hse args⟩ hpre rfl hAs hLS hstk hW8 h hfit) ?_ ?_
    · intro v G' I' J' ad' H' locs' hp hM'
      rcases v with _ | v
      · exact hX _ _ _ _ _ _ _ _ hp _ _ _ _ _ _ _ _ _ _ _ _ _ _ _ _ _ _ _ hC hM' h4 h5
      · exact hX _ _ _ _ _ _ _ _ hp _ _ _ _ _ _ _ _ _ _ _ _ _ _ _ _ _ _ _ hC hM' h4 h5
    · intro n' G' I' J' ad' H' locs' q ce g1 g3 hp hM' hce hcv hcl
      have hp : (match am_fnd hs0 n' with
        | some k => P (.inl (some (.inr (.inl k)))) G' I' J'
        | none => False) := hp
      split at hp
      · rename_i k hk
        exact am_hd_ok (hh n' k hk) hC hy hM' h4 h5 hp hce hcv hcl
      · exact hp.elim
/-! new cells: the prover names them -/
def am_nG (G : am_G) (a : am_A) : am_G := (G.1 ++ [a], fun b k => if b = a then none else G.2 b k)
def am_nI (I : am_I) (a : am_A) : am_I := fun b => if b = a then fun _ => 0 else I b
def am_nJ (J : am_J) (a : am_A) : am_J := fun b => if b = a then fun _ => 0 else J b
def am_nad (ad : am_A → Nat) (a : am_A) (q : Nat) : am_A → Nat := fun b => if b = a then q else ad b
theorem am_nwf {G : am_G} {a : am_A} (h : am_wf G) (ha : a.1 < 36) : am_wf (am_nG G a) := by
  refine ⟨fun b hb => ?_, fun b hb k c hc => ?_⟩
  · rcases List.mem_append.mp hb with hb | hb
    · exact h.1 b hb
    · rw [List.mem_singleton.mp hb]; exact ha
  · have hc : (if b = a then none else G.2 b k) = some c := hc
    split at hc
    · cases hc
    · rename_i hba
      rcases List.mem_append.mp hb with hb | hb
      · exact List.mem_append_left _ (h.2 b hb k c hc)
      · exact absurd (List.mem_singleton.mp hb) hba
theorem am_nxt {G : am_G} {a : am_A} {ad : am_A → Nat} {q : Nat} (ha : a ∉ G.1) (h36 : a.1 < 36) : am_xt ad G (am_nad ad a q) (am_nG G a) :=
  ⟨fun b hb => ⟨List.mem_append_left _ hb, if_neg (fun e : b = a => ha (e ▸ hb))⟩, fun b hb => if_neg (fun e : b = a => by rw [e] at hb; omega)⟩
theorem am_nww {G : am_G} {a : am_A} {ad : am_A → Nat} {q : Nat} {cT : Nat → ClassId} {I : am_I} {J : am_J} {x : va_E} (hw : am_wf G) (ha : a ∉ G.1) (hx : am_ce (am_nad ad a q) cT (am_nG G a) (am_nI I a) (am_nJ J a) a = x) :
    am_ww ad cT G I J ++ [(q, x)] = am_ww (am_nad ad a q) cT (am_nG G a) (am_nI I a) (am_nJ J a) := by
  have e1 : (G.1.map fun b => (ad b, am_ce ad cT G I J b)) = G.1.map fun b => (am_nad ad a q b, am_ce (am_nad ad a q) cT (am_nG G a) (am_nI I a) (am_nJ J a) b) := by
    refine List.map_congr_left fun b hb => ?_
    have hba : ¬ b = a := fun e => ha (e ▸ hb)
    have g1 : am_nad ad a q b = ad b := if_neg hba
    have g2 : am_nI I a b = I b := if_neg hba
    have g3 : am_nJ J a b = J b := if_neg hba
    have g4 : ∀ k, ((am_nG G a).2 b k).map (am_nad ad a q) = (G.2 b k).map ad := by
      intro k
      have e0 : (am_nG G a).2 b k = G.2 b k := if_neg hba
      rw [e0]
      cases hk : G.2 b k with
      | none => rfl
      | some z =>
        have hza : ¬ z = a := fun e => ha (e ▸ hw.2 b hb k z hk)
        show some (am_nad ad a q z) = some (ad z)
        rw [show am_nad ad a q z = ad z from if_neg hza]
    rw [g1]
    refine congrArg (Prod.mk (ad b)) ?_
    unfold am_ce
    simp only [g2, g3, g4]
  show (G.1.map fun b => (ad b, am_ce ad cT G I J b)) ++ [(q, x)] = (G.1 ++ [a]).map fun b => (am_nad ad a q b, am_ce (am_nad ad a q) cT (am_nG G a) (am_nI I a) (am_nJ J a) b)
  rw [List.map_append, List.map_singleton, e1, hx]
  rw [show am_nad ad a q a = q from if_pos rfl]
def am_new (y ci nx : Nat) : am_S := fun K _ _ ls st kc ks G I J => kc + 1 ≤ am_mc y ∧ ks + am_cn ci ≤ am_ms y ∧ ∃ n : Nat, (ci, n) ∉ G.1 ∧ K nx ls (vR (ci, n) :: st) (kc + 1) (ks + am_cn ci) (am_nG G (ci, n)) (am_nI I (ci, n)) (am_nJ J (ci, n))
theorem am_dflt : ∀ ci, ci < 10 → ∀ k, k < am_cn ci → defaultValue (am_ty ci k) = (if am_fk ci k = 2 then Value.null else .int 0) := by decide +kernel
theorem ok_new {ci : Nat} (h : decode (am_mB y) pc = .ok (.new idx, 3)) (hlk : Cond.classLink (am_mY y).cls idx (am_cN ci) ∈ am_tb) (hci : ci < 10) : am_ok l sc d y pc (am_new y ci (pc + 3)) := by
  intro K X P ls st kc ks G I J hK _ hs
  intro p R e s m args below meth c D cT A ad0 G0 Q ad H locs LS hC hM hc hn
  obtain ⟨h1, h2, k, hk, hs⟩ := hs
  have hc10 : ((ci, k) : am_A).1 < 10 := hci
  refine va_new (fs := (List.range (am_cn ci)).map fun k => if am_fk ci k = 2 then Value.null else .int 0) hC.1.1 hC.1.2.1 (fun w hw => hC.2.1.1.use hw args) (am_hin ci hci) (am_ty ci) (am_hty ci hci) hC.1.2.2.2.2.1 (hC.2.1.1.use hlk args) (hC.2.1.1.use (am_hic ci hci).1 args) (hC.2.1.1.use (am_hic ci hci).2 args) hC.2.1.2.1 hM.2.1 hM.2.2.1 hM.2.2.2.1 hC.2.1.2.2.1 (am_cls_at ci hci) ?_ (Nat.le_trans h1 hC.2.2.1.2.2.2.1) (Nat.le_trans h2 hC.2.2.1.2.2.2.2) h ?_
  · intro j hj
    rw [am_dflt ci hci j hj]
    unfold vp_V
    rw [List.getD_eq_getElem?_getD, am_fs_at hj]
    rfl
  · intro q H1 hP1 hD1 hS1
    rw [am_nww (a := (ci, k)) hM.2.2.2.2.1 hk (by
      rw [am_ce_o hc10]
      refine congrArg (fun f => Sum.inr (ci, (List.range (am_cn ci)).map f)) ?_
      funext j
      simp [am_nG, am_nI, va_rf])] at hP1 hD1
    have hx := am_nxt (ad := ad) (q := q) hk (show ((ci, k) : am_A).1 < 36 by show ci < 36; omega)
    have hv := hM.sok
    have hvs : ∀ v ∈ vR (ci, k) :: st, am_vk (am_nG G (ci, k)) v := List.forall_mem_cons.mpr ⟨Or.inl (List.mem_append_right _ (List.mem_singleton_self _)), fun v h => am_vk_xt hx (hv v h)⟩
    have hk := hK _ _ _ _ _ _ _ _ hs _ _ _ _ _ _ _ _ _ _ _ _ _ _ _ _ _ _ _ hC (hM.go hx hP1 hD1 (am_nwf hM.2.2.2.2.1 (show ((ci, k) : am_A).1 < 36 by show ci < 36; omega)) hS1 hvs) h1 h2
    rw [List.map_cons, am_map_xt hx hv, show am_cv (am_nad ad (ci, k) q) (vR (ci, k)) = .ref q from congrArg Value.ref (if_pos rfl)] at hk
    exact hk
theorem am_an_le : ∀ s : Nat, am_an s ≤ 4000 := by
  intro s
  by_cases q : s < 37
  · have : ∀ s : Nat, s < 37 → am_an s ≤ 4000 := by decide +kernel
    exact this s q
  · have e2 : am_anl[s]? = none := by
      rw [List.getElem?_eq_none_iff]
      have : am_anl.length = 37 := by decide +kernel
      omega
    unfold am_an
    rw [List.getD_eq_getElem?_getD, e2]
    exact Nat.zero_le _
def am_newa (y t nx : Nat) : am_S := fun K _ _ ls st kc ks G I J => match st with
  | (.inl x) :: r => ∃ a : am_A, (am_at a.1 = t ∧ ¬ x < 0 ∧ x.toNatClampNeg = am_an a.1) ∧ (kc + 1 ≤ am_mc y ∧ ks + am_an a.1 ≤ am_ms y) ∧ a ∉ G.1 ∧ K nx ls (vR a :: r) (kc + 1) (ks + am_an a.1) (am_nG G a) (am_nI I a) (am_nJ J a)
  | _ => False
theorem am_newa_go {K : am_K} {P : am_P} {p : Program} {R : Room} {e : Env} {s : State} {m : MethodId} {args : Array Value} {below : List Frame} {meth : Method} {c : Code} {D : va_G} {cT : Nat → ClassId} {A : Nat → Prop} {ad0 ad : am_A → Nat} {G0 G : am_G} {Q : State → Prop} {H : Heap} {locs : List Loc} {LS : Array Slot} {ls : am_L} {st r : List am_V} {I : am_I} {J : am_J} {kc ks nx : Nat} {a : am_A} {t : Nat} {a0 : vp_A}
    (hK : ∀ pc ls st kc ks G I J, K pc ls st kc ks G I J → am_X l sc d y P pc ls st kc ks G I J) (hC : am_C l d y P p R e s m args below meth c D cT A ad0 G0 Q) (hM : am_M sc y ad0 G0 ad cT D A s H locs LS ls st G I J) (hvr : ∀ v ∈ r, am_vk G v) (ht : t < 5) (hat : am_at a.1 = t) (ha : a ∉ G.1) (h1 : kc + 1 ≤ am_mc y) (h2 : ks + am_an a.1 ≤ am_ms y) (hs : K nx ls (vR a :: r) (kc + 1) (ks + am_an a.1) (am_nG G a) (am_nI I a) (am_nJ J a))
    (hce : ∀ q : Nat, am_ce (am_nad ad a q) cT (am_nG G a) (am_nI I a) (am_nJ J a) a = .inl (cT t, a0)) :
    ∀ (q : Nat) (cA : ClassId) (H1 : Heap), va_K D am_cls (am_tys cT ++ [(cA, am_aty t)]) s → va_P D am_cls (am_ww ad cT G I J ++ [(q, .inl (cA, a0))]) H1 → va_D A (am_ww ad cT G I J ++ [(q, .inl (cA, a0))]) → va_S A s.heap H1 locs →
      W p l e R s m args below meth c H1 locs (kc + 1) (ks + am_an a.1) Q (F0 m nx LS (.ref q :: r.map (am_cv ad))) := by
  intro q cA H1 hK1 hP1 hD1 hS1
  have h36 := am_at_small a.1 (by omega)
  have hcA : cA = cT t := by
    have g1 := (hK1.2 t (cT t, am_aty t) (by rw [List.getElem?_append_left (by show t < 5; exact ht)]; exact am_ty_at cT t ht)).2
    have g2 := (hK1.2 5 (cA, am_aty t) (by rw [List.getElem?_append_right (by show 5 ≤ 5; exact Nat.le_refl _)]; rfl)).2
    match t, ht with
    | 0, _ => exact Option.some.inj (g2.symm.trans g1)
    | 1, _ => exact Option.some.inj (g2.symm.trans g1)
    | 2, _ => exact Option.some.inj (g2.symm.trans g1)
    | 3, _ => exact Option.some.inj (g2.symm.trans g1)
    | 4, _ =>
      obtain ⟨_, _, _, _, _, f1⟩ := g1
      obtain ⟨_, _, _, _, _, f2⟩ := g2
      exact Option.some.inj (f2.symm.trans f1)
    | k + 5, h => exact absurd h (by omega)
  subst hcA
  rw [am_nww hM.2.2.2.2.1 ha (hce q)] at hP1 hD1
  have hx := am_nxt (ad := ad) (q := q) ha h36.2
  have hvs : ∀ v ∈ vR a :: r, am_vk (am_nG G a) v := List.forall_mem_cons.mpr ⟨Or.inl (List.mem_append_right _ (List.mem_singleton_self _)), fun v h => am_vk_xt hx (hvr v h)⟩
  have hk := hK _ _ _ _ _ _ _ _ hs _ _ _ _ _ _ _ _ _ _ _ _ _ _ _ _ _ _ _ hC (hM.go hx hP1 hD1 (am_nwf hM.2.2.2.2.1 h36.2) hS1 hvs) h1 h2
  rw [List.map_cons, am_map_xt hx hvr, show am_cv (am_nad ad a q) (vR a) = .ref q from congrArg Value.ref (if_pos rfl)] at hk
  exact hk
theorem ok_newa {atype : ArrayType} {t : Nat} (h : decode (am_mB y) pc = .ok (.newarray atype, 2)) (harr : Cond.arrayClass (newarray.typeOf atype) ∈ am_tb) (ht : t < 3 ∧ newarray.typeOf atype = am_aty t) : am_ok l sc d y pc (am_newa y t (pc + 2)) := by
  intro K X P ls st kc ks G I J hK _ hs
  unfold am_newa at hs
  split at hs
  · rename_i x r
    intro p R e s m args below meth c D cT A ad0 G0 Q ad H locs LS hC hM hc hn
    have hv := hM.sok
    simp only [List.forall_mem_cons] at hv
    obtain ⟨a, ⟨hat, hx0, hxn⟩, ⟨h1, h2⟩, ha, hs⟩ := hs
    have hce : ∀ q : Nat, am_ce (am_nad ad a q) cT (am_nG G a) (am_nI I a) (am_nJ J a) a = .inl (cT t, (am_an a.1, .inl (fun _ => 0))) := fun q => by
      rw [am_ce_i hat ht.1]
      simp [am_nI]
    have hdef : ∀ t, t < 3 → defaultValue (am_aty t) = .int 0 ∧ componentBytes (am_aty t) ≤ 4 := by decide +kernel
    have hle := am_an_le a.1
    refine va_newa (a0 := (am_an a.1, .inl (fun _ => 0))) hC.1.1 hC.1.2.1 (hC.2.1.1.use harr args) ht.2 hC.2.1.2.1 hM.2.1 hM.2.2.1 hM.2.2.2.1 hC.2.1.2.2.1 (fun cA => ?_) hx0 hxn ?_ (Nat.le_trans h1 hC.2.2.1.2.2.2.1) (Nat.le_trans h2 hC.2.2.1.2.2.2.2) h (am_newa_go hK hC hM hv.2 (by omega) hat ha h1 h2 hs hce)
    · rw [(hdef t ht.1).1]; rfl
    · have := (hdef t ht.1).2
      have h3 : am_an a.1 * componentBytes (am_aty t) ≤ 4000 * 4 := Nat.mul_le_mul hle this
      exact Nat.le_trans h3 (Nat.le_of_ble_eq_true rfl)
  · exact hs.elim
theorem ok_newl (h : decode (am_mB y) pc = .ok (.newarray .long, 2)) (harr : Cond.arrayClass (newarray.typeOf .long) ∈ am_tb) : am_ok l sc d y pc (am_newa y 3 (pc + 2)) := by
  intro K X P ls st kc ks G I J hK _ hs
  unfold am_newa at hs
  split at hs
  · rename_i x r
    intro p R e s m args below meth c D cT A ad0 G0 Q ad H locs LS hC hM hc hn
    have hv := hM.sok
    simp only [List.forall_mem_cons] at hv
    obtain ⟨a, ⟨hat, hx0, hxn⟩, ⟨h1, h2⟩, ha, hs⟩ := hs
    have hce : ∀ q : Nat, am_ce (am_nad ad a q) cT (am_nG G a) (am_nI I a) (am_nJ J a) a = .inl (cT 3, (am_an a.1, .inr (.inl (fun _ => 0)))) := fun q => by
      rw [am_ce_l hat]
      simp [am_nJ]
    have hle := am_an_le a.1
    refine va_newa (ty := .long) (a0 := (am_an a.1, .inr (.inl (fun _ => 0)))) hC.1.1 hC.1.2.1 (hC.2.1.1.use harr args) rfl hC.2.1.2.1 hM.2.1 hM.2.2.1 hM.2.2.2.1 hC.2.1.2.2.1 (fun cA => rfl) hx0 hxn ?_ (Nat.le_trans h1 hC.2.2.1.2.2.2.1) (Nat.le_trans h2 hC.2.2.1.2.2.2.2) h (am_newa_go (t := 3) hK hC hM hv.2 (by omega) hat ha h1 h2 hs hce)
    have h3 : am_an a.1 * componentBytes .long ≤ 4000 * 8 := Nat.mul_le_mul hle (Nat.le_refl _)
    exact Nat.le_trans h3 (Nat.le_of_ble_eq_true rfl)
  · exact hs.elim
theorem ok_newq (h : decode (am_mB y) pc = .ok (.anewarray idx, 3)) (hlk : Cond.classLink (am_mY y).cls idx "TablePager$Table" ∈ am_tb) : am_ok l sc d y pc (am_newa y 4 (pc + 3)) := by
  intro K X P ls st kc ks G I J hK _ hs
  unfold am_newa at hs
  split at hs
  · rename_i x r
    intro p R e s m args below meth c D cT A ad0 G0 Q ad H locs LS hC hM hc hn
    have hv := hM.sok
    simp only [List.forall_mem_cons] at hv
    obtain ⟨a, ⟨hat, hx0, hxn⟩, ⟨h1, h2⟩, ha, hs⟩ := hs
    have hce : ∀ q : Nat, am_ce (am_nad ad a q) cT (am_nG G a) (am_nI I a) (am_nJ J a) a = .inl (cT 4, (am_an a.1, .inr (.inr (.inr (.inr (fun _ => none)))))) := fun q => by
      rw [am_ce_q hat]
      simp [am_nG]
    have hle := am_an_le a.1
    refine va_newq hC.1.1 hC.1.2.1 hC.1.2.2.2.2.1 (hC.2.1.1.use hlk args) hC.2.1.1.2.1 hC.2.1.2.1 hM.2.1 hM.2.2.1 hM.2.2.2.1 hC.2.1.2.2.1 hx0 hxn ?_ (Nat.le_trans h1 hC.2.2.1.2.2.2.1) (Nat.le_trans h2 hC.2.2.1.2.2.2.2) h (am_newa_go (t := 4) hK hC hM hv.2 (by omega) hat ha h1 h2 hs hce)
    exact Nat.le_trans (Nat.mul_le_mul hle (Nat.le_refl 4)) (Nat.le_of_ble_eq_true rfl)
  · exact hs.elim
/-! a method's entry -/
def am_el : Nat → List am_V → am_L
  | 0, _ => []
  | n + 1, [] => none :: am_el n []
  | n + 1, .inl x :: r => some (.inl x) :: am_el n r
  | n + 1, .inr (.inr a) :: r => some (.inr (.inr a)) :: am_el n r
  | n + 2, .inr (.inl x) :: r => some (.inr (.inl x)) :: none :: am_el n r
  | 1, .inr (.inl _) :: _ => [none]
theorem am_el_nil : ∀ (n j : Nat), am_lg (am_el n []) j = none
  | 0, _ => rfl
  | n + 1, 0 => rfl
  | n + 1, j + 1 => am_el_nil n j
theorem am_el_in (ad : am_A → Nat) : ∀ (n : Nat) (as : List am_V) (k j : Nat) (v : am_V), am_lg (am_el n as) j = some v → (k + j, am_cv ad v) ∈ lv_args k (as.map (am_cv ad))
  | 0, _, _, _, _, h => by simp [am_el, am_lg] at h
  | n + 1, [], _, j, _, h => by rw [am_el_nil] at h; cases h
  | n + 1, .inl x :: r, k, 0, v, h => by
    have e : vI x = v := Option.some.inj h
    rw [← e]
    exact List.mem_cons_self
  | n + 1, .inl x :: r, k, j + 1, v, h => by
    have := am_el_in ad n r (k + 1) j v h
    rw [show k + (j + 1) = k + 1 + j by omega]
    exact List.mem_cons_of_mem _ this
  | n + 1, .inr (.inr a) :: r, k, 0, v, h => by
    have e : vR a = v := Option.some.inj h
    rw [← e]
    exact List.mem_cons_self
  | n + 1, .inr (.inr a) :: r, k, j + 1, v, h => by
    have := am_el_in ad n r (k + 1) j v h
    rw [show k + (j + 1) = k + 1 + j by omega]
    exact List.mem_cons_of_mem _ this
  | n + 2, .inr (.inl x) :: r, k, 0, v, h => by
    have e : vL x = v := Option.some.inj h
    rw [← e]
    exact List.mem_cons_self
  | n + 2, .inr (.inl x) :: r, k, 1, v, h => by simp [am_el, am_lg] at h
  | n + 2, .inr (.inl x) :: r, k, j + 2, v, h => by
    have := am_el_in ad n r (k + 2) j v h
    rw [show k + (j + 2) = k + 2 + j by omega]
    exact List.mem_cons_of_mem _ this
  | 1, .inr (.inl x) :: r, k, 0, v, h => by simp [am_el, am_lg] at h
  | 1, .inr (.inl x) :: r, k, j + 1, v, h => by simp [am_el, am_lg] at h
theorem am_el_vk {G : am_G} : ∀ (n : Nat) (as : List am_V) (j : Nat) (v : am_V), (∀ v ∈ as, am_vk G v) → am_lg (am_el n as) j = some v → am_vk G v
  | 0, _, _, _, _, h => by simp [am_el, am_lg] at h
  | n + 1, [], j, _, _, h => by rw [am_el_nil] at h; cases h
  | n + 1, .inl x :: r, 0, v, _, h => by
    have e : vI x = v := Option.some.inj h
    rw [← e]; exact trivial
  | n + 1, .inl x :: r, j + 1, v, hv, h => am_el_vk n r j v (List.forall_mem_cons.mp hv).2 h
  | n + 1, .inr (.inr a) :: r, 0, v, hv, h => by
    have e : vR a = v := Option.some.inj h
    rw [← e]; exact (List.forall_mem_cons.mp hv).1
  | n + 1, .inr (.inr a) :: r, j + 1, v, hv, h => am_el_vk n r j v (List.forall_mem_cons.mp hv).2 h
  | n + 2, .inr (.inl x) :: r, 0, v, _, h => by
    have e : vL x = v := Option.some.inj h
    rw [← e]; exact trivial
  | n + 2, .inr (.inl x) :: r, 1, v, _, h => by simp [am_el, am_lg] at h
  | n + 2, .inr (.inl x) :: r, j + 2, v, hv, h => am_el_vk n r j v (List.forall_mem_cons.mp hv).2 h
  | 1, .inr (.inl x) :: r, 0, v, _, h => by simp [am_el, am_lg] at h
  | 1, .inr (.inl x) :: r, j + 1, v, _, h => by simp [am_el, am_lg] at h
theorem am_sl_len (ad : am_A → Nat) (as : List am_V) : (lg_sl (as.map (am_cv ad))).length = (as.map am_cat).sum := by
  induction as with
  | nil => rfl
  | cons v r ih =>
    have e : (lg_sl ((v :: r).map (am_cv ad))).length = (if (am_cv ad v).category = 2 then 2 else 1) + (lg_sl (r.map (am_cv ad))).length := by
      unfold lg_sl
      rw [List.map_cons, List.flatMap_cons, List.length_append]
      split <;> rfl
    rw [e, ih, List.map_cons, List.sum_cons, am_cat_eq]
    rcases v with x | x | a <;> rfl
/-- a contract out of the walk of a body -/
theorem am_T_of {as : List am_V} {G : am_G} {I : am_I} {J : am_J} {P : am_P} (hcf : am_cf y) (hmo : ¬ am_mo y = 2) (hlaw : ¬ am_scy y = true) (hH : am_mo y = 1 ∨ am_mH y = []) (hlen : (as.map am_cat).sum ≤ am_mL y) (h : am_X l sc d y P 0 (am_el (am_mL y) as) [] 0 0 G I J) : am_T l d y as G I J P := by
  intro hl hw hv D cT ad sz
  have body : ∀ (p : Program) (e : Env) (s : State) (m : MethodId) (args : Array Value) (below : List Frame) (meth : Method) (c : Code) (s₁ : State), BodyLoose p l (am_mY y) (headSpec [am_cw y] (am_rm d y)) (am_mB y) (am_mL y) (am_mR y) e s m args below meth c s₁ → c.maxLocals = am_mL y → c.exceptionTable.toList = tableOf (am_mH y) → va_Pc (as.map (am_cv ad)) (am_B sz D cT ad G I J) args s →
      W p l e (headSpec [am_cw y] (am_rm d y)).room s m args below meth c s.heap [] 0 0 (vx_MQ below (am_Qc D cT (va_A (am_ww ad cT G I J) sz) ad G P) (am_Xc D cT (va_A (am_ww ad cT G I J) sz) ad G P) args s (am_mc y) (am_ms y) (va_A (am_ww ad cT G I J) sz)) (entryFrame m args (am_mL y)) := by
    intro p e s m args below meth c s₁ B hml htab hP
    obtain ⟨rfl, hsz, hP, hK, hD0, hWd, hU, hN⟩ := hP
    subst hsz
    rw [lg_entry_eq]
    have hD := hD0.self (sz := s.heap.size)
    have hloc := lv_entry (as.map (am_cv ad)) (n := am_mL y) (by rw [am_sl_len]; exact hlen)
    have hC : am_C l d y P p (am_rm d y) e s m (as.map (am_cv ad)).toArray below meth c D cT (va_A (am_ww ad cT G I J) s.heap.size) ad G (vx_MQ below (am_Qc D cT (va_A (am_ww ad cT G I J) s.heap.size) ad G P) (am_Xc D cT (va_A (am_ww ad cT G I J) s.heap.size) ad G P) (as.map (am_cv ad)).toArray s (am_mc y) (am_ms y) (va_A (am_ww ad cT G I J) s.heap.size)) :=
      ⟨⟨B.exec, B.bytes, B.returns, hml, findClass_of_methodNamed B.named, B.notSynchronized, (name_of_methodNamed B.named B.method).1⟩, ⟨hWd, hK, fun q hq => Or.inr hq, hU, hN⟩, ⟨hl, Nat.le_refl _, Nat.le_refl _, Nat.le_refl _, Nat.le_refl _⟩, fun _ => ⟨rfl, htab⟩, fun h2 => absurd h2 hmo⟩
    have hlv : lv_has ((lg_sl (as.map (am_cv ad)) ++ List.replicate (am_mL y - (lg_sl (as.map (am_cv ad))).length) Slot.unset).toArray) (am_mL y) (am_cl ad 0 (am_el (am_mL y) as)) := by
      refine ⟨hloc.1, hloc.2.1, fun q hq => hloc.2.2 q ?_⟩
      obtain ⟨j, v, e1, rfl⟩ := am_cl_at ad _ 0 q hq
      exact am_el_in ad _ as 0 j v e1
    have hM : am_M sc y ad G ad cT D (va_A (am_ww ad cT G I J) s.heap.size) s s.heap [] ((lg_sl (as.map (am_cv ad)) ++ List.replicate (am_mL y - (lg_sl (as.map (am_cv ad))).length) Slot.unset).toArray) (am_el (am_mL y) as) [] G I J :=
      ⟨hlv, hP, hD, va_S.rf, hw, (fun _ h => nomatch h), fun i v hi => am_el_vk _ as i v hv hi, fun h2 => absurd h2 hlaw, fun a ha => ⟨ha, rfl⟩, fun a _ => rfl⟩
    exact h _ _ _ _ _ _ _ _ _ _ _ _ _ _ _ _ _ _ _ hC hM (Nat.zero_le _) (Nat.zero_le _)
  by_cases h1 : am_mo y = 1
  · have hcw : [am_cw y] = Cond.codeWith (am_mY y) (am_mB y) (am_mL y) (am_mR y) (am_mH y) :: [] := by rw [show am_cw y = _ from if_pos h1]
    refine vx_ofWH hcf.2.2.2.1 hcw ?_
    intro p e s m args below meth c s₁ B hml hP
    have hc1 : (Cond.codeWith (am_mY y) (am_mB y) (am_mL y) (am_mR y) (am_mH y)).before args s = true := by
      have h9 := hP.2.2.2.2.2.1.use hcf.1 args
      rw [show am_cw y = Cond.codeWith (am_mY y) (am_mB y) (am_mL y) (am_mR y) (am_mH y) from if_pos h1] at h9
      exact h9
    exact body p e s m args below meth c s₁ B hml (vx_table (x := am_mY y) B hc1) hP
  · have hcw : [am_cw y] = Cond.code (am_mY y) (am_mB y) (am_mL y) (am_mR y) :: [] := by rw [show am_cw y = _ from if_neg h1]
    refine vx_ofW hcf.2.2.2.1 hcw ?_
    intro p e s m args below meth c s₁ B hml ht hP
    refine body p e s m args below meth c s₁ B hml ?_ hP
    rw [hH.resolve_left h1]
    exact List.eq_nil_iff_forall_not_mem.mpr fun x hx => ht x hx
end AMX
end
section
/-! ===== runs of the abstract machine ===== -/
def am_go (code : Nat → am_S) (X : am_K) (P : am_P) : Nat → am_K
  | 0 => X
  | n + 1 => fun pc ls st kc ks G I J => code pc (am_go code X P n) X P ls st kc ks G I J
def am_no : am_S := fun _ _ _ _ _ _ _ _ _ _ => False
def am_lk : List (Nat × am_S) → Nat → am_S
  | [], _ => am_no
  | q :: r, pc => bif Nat.beq pc q.1 then q.2 else am_lk r pc
/-- the steps stop behind this one -/
def am_stp (σ : am_S) : am_S := fun _ X P ls st kc ks G I J => σ X X P ls st kc ks G I J
section AMG
variable {l : Launch} {sc : Nat × (Nat → Int32)} {d y pc : Nat}
theorem ok_stp {σ : am_S} (h : am_ok l sc d y pc σ) : am_ok l sc d y pc (am_stp σ) := fun K X P ls st kc ks G I J _ hX hs => h X X P ls st kc ks G I J hX hX hs
theorem ok_lk : ∀ (tab : List (Nat × am_S)), (∀ q ∈ tab, am_ok l sc d y q.1 q.2) → ∀ pc, am_ok l sc d y pc (am_lk tab pc)
  | [], _, pc => fun K X P ls st kc ks G I J _ _ hs => (hs : False).elim
  | q :: r, h, pc => by
    unfold am_lk
    cases hb : Nat.beq pc q.1 with
    | true =>
      have e := Nat.eq_of_beq_eq_true hb
      subst e
      exact h q List.mem_cons_self
    | false => exact ok_lk r (fun q hq => h q (List.mem_cons_of_mem _ hq)) pc
theorem am_run {code : Nat → am_S} {P : am_P} (hok : ∀ pc, am_ok l sc d y pc (code pc)) : ∀ (n pc : Nat) (ls : am_L) (st : List am_V) (kc ks : Nat) (G : am_G) (I : am_I) (J : am_J), am_go code (am_X l sc d y P) P n pc ls st kc ks G I J → am_X l sc d y P pc ls st kc ks G I J
  | 0, _, _, _, _, _, _, _, _, h => h
  | n + 1, pc, ls, st, kc, ks, G, I, J, h => hok pc _ _ P ls st kc ks G I J (fun pc ls st kc ks G I J h => am_run hok n pc ls st kc ks G I J h) (fun _ _ _ _ _ _ _ _ h => h) h
theorem fa_nil {α : Type} {p : α → Prop} : ∀ a ∈ ([] : List α), p a := fun _ h => nomatch h
theorem fa_cons {α : Type} {p : α → Prop} {a : α} {r : List α} (h : p a) (t : ∀ a ∈ r, p a) : ∀ b ∈ a :: r, p b := List.forall_mem_cons.mpr ⟨h, t⟩
/-- a call, its budgets as numbers -/
def am_cal (l : Launch) (d y' : Nat) (rc : Option Nat) (n nx c s cy sy : Nat) : am_S := fun _ X P ls st kc ks G I J =>
  (n ≤ st.length ∧ ((st.drop n).map am_cat).sum ≤ 8 ∧ am_rc rc (st.take n).reverse ∧ kc + c ≤ cy ∧ ks + s ≤ sy) ∧
  am_T l d y' (st.take n).reverse G I J (am_k X P nx ls (st.drop n) (kc + c) (ks + s))
theorem am_cal_eq {rc : Option Nat} {n nx c s cy sy y' : Nat} (h : am_mc y' = c ∧ am_ms y' = s ∧ am_mc y = cy ∧ am_ms y = sy) : am_call l d y y' rc n nx = am_cal l d y' rc n nx c s cy sy := by
  obtain ⟨rfl, rfl, rfl, rfl⟩ := h
  rfl
theorem ok_cal {rc : Option Nat} {n nx c s cy sy y' d' : Nat} (h : am_mc y' = c ∧ am_ms y' = s ∧ am_mc y = cy ∧ am_ms y = sy) (ho : am_ok l sc d' y pc (am_call l d y y' rc n nx)) : am_ok l sc d' y pc (am_cal l d y' rc n nx c s cy sy) := am_cal_eq h ▸ ho
def am_calH (l : Launch) (d y' : Nat) (rc : Option Nat) (n : Nat) (hs : List (Nat × Int64)) (nx c s cy sy : Nat) : am_S := fun _ X P ls st kc ks G I J =>
  (n ≤ st.length ∧ ((st.drop n).map am_cat).sum ≤ 8 ∧ am_rc rc (st.take n).reverse ∧ kc + c ≤ cy ∧ ks + s ≤ sy) ∧
  am_T l d y' (st.take n).reverse G I J (am_kH X P hs nx ls (st.drop n) (kc + c) (ks + s))
theorem am_calH_eq {rc : Option Nat} {hs : List (Nat × Int64)} {n nx c s cy sy y' : Nat} (h : am_mc y' = c ∧ am_ms y' = s ∧ am_mc y = cy ∧ am_ms y = sy) : am_callH l d y y' rc n hs nx = am_calH l d y' rc n hs nx c s cy sy := by
  obtain ⟨rfl, rfl, rfl, rfl⟩ := h
  rfl
theorem ok_calH {rc : Option Nat} {hs : List (Nat × Int64)} {n nx c s cy sy y' d' : Nat} (h : am_mc y' = c ∧ am_ms y' = s ∧ am_mc y = cy ∧ am_ms y = sy) (ho : am_ok l sc d' y pc (am_callH l d y y' rc n hs nx)) : am_ok l sc d' y pc (am_calH l d y' rc n hs nx c s cy sy) := am_calH_eq h ▸ ho
def am_thr (n cy sy : Nat) : am_S := fun _ _ P _ st kc ks G I J => st = [] ∧ kc + 1 ≤ cy ∧ ks + 6 ≤ sy ∧ P (.inr n) G I J
theorem ok_thr {n cy sy d' : Nat} (h : am_mc y = cy ∧ am_ms y = sy) (ho : am_ok l sc d' y pc (am_throw y n)) : am_ok l sc d' y pc (am_thr n cy sy) := by
  obtain ⟨rfl, rfl⟩ := h
  exact ho
def am_mk (ci nx cy sy : Nat) : am_S := fun K _ _ ls st kc ks G I J => kc + 1 ≤ cy ∧ ks + am_cn ci ≤ sy ∧ ∃ n : Nat, (ci, n) ∉ G.1 ∧ K nx ls (vR (ci, n) :: st) (kc + 1) (ks + am_cn ci) (am_nG G (ci, n)) (am_nI I (ci, n)) (am_nJ J (ci, n))
theorem ok_mk {ci nx cy sy d' : Nat} (h : am_mc y = cy ∧ am_ms y = sy) (ho : am_ok l sc d' y pc (am_new y ci nx)) : am_ok l sc d' y pc (am_mk ci nx cy sy) := by
  obtain ⟨rfl, rfl⟩ := h
  exact ho
def am_mka (t nx cy sy : Nat) : am_S := fun K _ _ ls st kc ks G I J => match st with
  | (.inl x) :: r => ∃ a : am_A, (am_at a.1 = t ∧ ¬ x < 0 ∧ x.toNatClampNeg = am_an a.1) ∧ (kc + 1 ≤ cy ∧ ks + am_an a.1 ≤ sy) ∧ a ∉ G.1 ∧ K nx ls (vR a :: r) (kc + 1) (ks + am_an a.1) (am_nG G a) (am_nI I a) (am_nJ J a)
  | _ => False
theorem ok_mka {t nx cy sy d' : Nat} (h : am_mc y = cy ∧ am_ms y = sy) (ho : am_ok l sc d' y pc (am_newa y t nx)) : am_ok l sc d' y pc (am_mka t nx cy sy) := by
  obtain ⟨rfl, rfl⟩ := h
  exact ho
end AMG
def am_lks : List (Nat × List (Nat × am_S)) → Nat → am_S
  | [], _ => am_no
  | q :: r, pc => bif Nat.ble q.1 pc then am_lks r pc else am_lk q.2 pc
theorem ok_lks {l : Launch} {sc : Nat × (Nat → Int32)} {d y : Nat} : ∀ (tabs : List (Nat × List (Nat × am_S))), (∀ q ∈ tabs, ∀ x ∈ q.2, am_ok l sc d y x.1 x.2) → ∀ pc, am_ok l sc d y pc (am_lks tabs pc)
  | [], _, pc => fun K X P ls st kc ks G I J _ _ hs => (hs : False).elim
  | q :: r, h, pc => by
    unfold am_lks
    cases hb : Nat.ble q.1 pc with
    | true => exact ok_lks r (fun q hq => h q (List.mem_cons_of_mem _ hq)) pc
    | false => exact ok_lk q.2 (h q List.mem_cons_self) pc
end
section
/-! written by wip/p32/gen.py: the words that the code tables use -/
def am_flo (own : String) (idx ci k : Nat) : Prop := Cond.fieldLink own idx (am_cT ci k).1 (am_cT ci k).2.1 (am_cT ci k).2.2.1 ∈ am_tb ∨ ∃ host : String, Cond.fieldLinkNest own idx (am_cT ci k).1 (am_cT ci k).2.1 (am_cT ci k).2.2.1 host ∈ am_tb
def am_mlo (own : String) (idx y : Nat) : Prop := Cond.methodLink own idx (am_mY y) ∈ am_tb ∨ ∃ host : String, Cond.methodLinkNest own idx (am_mY y) host ∈ am_tb
theorem am_nfw : nativeFrameWords "java/lang/System" "arraycopy" 5 + 11 ≤ 35 := by decide +kernel
theorem w_49 : (Jvm.Cond.methodLink "TablePager$Table" (3 : Nat) ({ cls := "java/lang/Object", name := "<init>", desc := "()V" } : Jvm.MethodName)) ∈ am_tb := am_tin 122 (by decide +kernel) rfl
theorem w_24 : (Jvm.Cond.instanceMethod ({ cls := "java/lang/Object", name := "<init>", desc := "()V" } : Jvm.MethodName)) ∈ am_tb := am_tin 97 (by decide +kernel) rfl
theorem w_25 : (Jvm.Cond.code ({ cls := "java/lang/Object", name := "<init>", desc := "()V" } : Jvm.MethodName) object_method_1_code (1 : Nat) (Option.none : Option Jvm.ClassFile.FieldType)) ∈ am_tb := am_tin 98 (by decide +kernel) rfl
theorem w_130 : (Jvm.Cond.arrayClass Jvm.ClassFile.FieldType.int) ∈ am_tb := am_tin 203 (by decide +kernel) rfl
theorem w_77 : (Jvm.Cond.fieldLink "TablePager$Table" (9 : Nat) "TablePager$Table" "heights" "[I") ∈ am_tb := am_tin 150 (by decide +kernel) rfl
theorem w_80 : (Jvm.Cond.fieldLink "TablePager$Table" (15 : Nat) "TablePager$Table" "notes" "[I") ∈ am_tb := am_tin 153 (by decide +kernel) rfl
theorem w_131 : (Jvm.Cond.arrayClass Jvm.ClassFile.FieldType.boolean) ∈ am_tb := am_tin 204 (by decide +kernel) rfl
theorem w_84 : (Jvm.Cond.fieldLink "TablePager$Table" (18 : Nat) "TablePager$Table" "stays" "[Z") ∈ am_tb := am_tin 157 (by decide +kernel) rfl
theorem w_88 : (Jvm.Cond.fieldLink "TablePager$Table" (22 : Nat) "TablePager$Table" "amounts" "[I") ∈ am_tb := am_tin 161 (by decide +kernel) rfl
theorem w_89 : (Jvm.Cond.fieldLink "TablePager$Table" (25 : Nat) "TablePager$Table" "firsts" "[I") ∈ am_tb := am_tin 162 (by decide +kernel) rfl
theorem w_93 : (Jvm.Cond.fieldLink "TablePager$Table" (28 : Nat) "TablePager$Table" "lasts" "[I") ∈ am_tb := am_tin 166 (by decide +kernel) rfl
theorem w_97 : (Jvm.Cond.fieldLink "TablePager$Table" (31 : Nat) "TablePager$Table" "mayBeCut" "[Z") ∈ am_tb := am_tin 170 (by decide +kernel) rfl
theorem w_99 : (Jvm.Cond.fieldLink "TablePager$Table" (34 : Nat) "TablePager$Table" "noteHeights" "[I") ∈ am_tb := am_tin 172 (by decide +kernel) rfl
theorem w_50 : (Jvm.Cond.methodLink "TablePager$Table" (37 : Nat) ({ cls := "TablePager$Table", name := "makeNew", desc := "()V" } : Jvm.MethodName)) ∈ am_tb := am_tin 123 (by decide +kernel) rfl
theorem w_54 : (Jvm.Cond.fieldLink "TablePager$Table" (40 : Nat) "TablePager$Table" "columns" "I") ∈ am_tb := am_tin 127 (by decide +kernel) rfl
theorem w_57 : (Jvm.Cond.fieldLink "TablePager$Table" (44 : Nat) "TablePager$Table" "rows" "I") ∈ am_tb := am_tin 130 (by decide +kernel) rfl
theorem w_64 : (Jvm.Cond.fieldLink "TablePager$Table" (47 : Nat) "TablePager$Table" "spans" "I") ∈ am_tb := am_tin 137 (by decide +kernel) rfl
theorem w_67 : (Jvm.Cond.fieldLink "TablePager$Table" (50 : Nat) "TablePager$Table" "pageHeight" "I") ∈ am_tb := am_tin 140 (by decide +kernel) rfl
theorem w_73 : (Jvm.Cond.fieldLink "TablePager$Table" (53 : Nat) "TablePager$Table" "headingHeight" "I") ∈ am_tb := am_tin 146 (by decide +kernel) rfl
theorem w_430 : (Jvm.Cond.methodLink "TablePager$Table" (56 : Nat) ({ cls := "java/lang/System", name := "arraycopy", desc := "(Ljava/lang/Object;ILjava/lang/Object;II)V" } : Jvm.MethodName)) ∈ am_tb := am_tin 503 (by decide +kernel) rfl
theorem w_432 : (Jvm.Cond.native ({ cls := "java/lang/System", name := "arraycopy", desc := "(Ljava/lang/Object;ILjava/lang/Object;II)V" } : Jvm.MethodName)) ∈ am_tb := am_tin 505 (by decide +kernel) rfl
theorem w_431 : (Jvm.Cond.static ({ cls := "java/lang/System", name := "arraycopy", desc := "(Ljava/lang/Object;ILjava/lang/Object;II)V" } : Jvm.MethodName)) ∈ am_tb := am_tin 504 (by decide +kernel) rfl
theorem w_16 : (Jvm.Cond.initialized "java/lang/System") ∈ am_tb := am_tin 89 (by decide +kernel) rfl
theorem w_701 : (Jvm.Cond.methodLink "TablePager$Table" (62 : Nat) ({ cls := "TablePager$Table", name := "amountAt", desc := "(II)I" } : Jvm.MethodName)) ∈ am_tb := am_tin 774 (by decide +kernel) rfl
theorem w_331 : (Jvm.Cond.methodLink "TablePager$Table" (66 : Nat) ({ cls := "TablePager$Table", name := "putAmount", desc := "(III)V" } : Jvm.MethodName)) ∈ am_tb := am_tin 404 (by decide +kernel) rfl
theorem w_774 : (Jvm.Cond.methodLink "TablePager$Table" (70 : Nat) ({ cls := "TablePager$Table", name := "takeRowFromSpans", desc := "(I)I" } : Jvm.MethodName)) ∈ am_tb := am_tin 847 (by decide +kernel) rfl
theorem w_778 : (Jvm.Cond.methodLink "TablePager$Table" (74 : Nat) ({ cls := "TablePager$Table", name := "putSpan", desc := "(IIZ)V" } : Jvm.MethodName)) ∈ am_tb := am_tin 851 (by decide +kernel) rfl
theorem w_527 : (Jvm.Cond.methodLink "TablePager$Table" (78 : Nat) ({ cls := "TablePager$Table", name := "upTo", desc := "(I)I" } : Jvm.MethodName)) ∈ am_tb := am_tin 600 (by decide +kernel) rfl
theorem w_523 : (Jvm.Cond.methodLink "TablePager$Table" (81 : Nat) ({ cls := "TablePager$Table", name := "cutRows", desc := "()I" } : Jvm.MethodName)) ∈ am_tb := am_tin 596 (by decide +kernel) rfl
theorem w_931 : (Jvm.Cond.methodLink "TablePager$Table" (85 : Nat) ({ cls := "TablePager$Table", name := "isFull", desc := "()Z" } : Jvm.MethodName)) ∈ am_tb := am_tin 1004 (by decide +kernel) rfl
theorem w_932 : (Jvm.Cond.methodLink "TablePager$Table" (89 : Nat) ({ cls := "TablePager$Table", name := "putRow", desc := "(II)V" } : Jvm.MethodName)) ∈ am_tb := am_tin 1005 (by decide +kernel) rfl
theorem w_933 : (Jvm.Cond.methodLink "TablePager$Table" (93 : Nat) ({ cls := "TablePager$Table", name := "dropRow", desc := "(I)I" } : Jvm.MethodName)) ∈ am_tb := am_tin 1006 (by decide +kernel) rfl
theorem w_233 : (Jvm.Cond.methodLink "TablePager$Command" (1 : Nat) ({ cls := "java/lang/Object", name := "<init>", desc := "()V" } : Jvm.MethodName)) ∈ am_tb := am_tin 306 (by decide +kernel) rfl
theorem w_234 : (Jvm.Cond.fieldLink "TablePager$Command" (7 : Nat) "TablePager$Command" "kind" "I") ∈ am_tb := am_tin 307 (by decide +kernel) rfl
theorem w_235 : (Jvm.Cond.fieldLink "TablePager$Command" (13 : Nat) "TablePager$Command" "second" "I") ∈ am_tb := am_tin 308 (by decide +kernel) rfl
theorem w_236 : (Jvm.Cond.fieldLink "TablePager$Command" (16 : Nat) "TablePager$Command" "third" "I") ∈ am_tb := am_tin 309 (by decide +kernel) rfl
theorem w_237 : (Jvm.Cond.fieldLink "TablePager$Command" (19 : Nat) "TablePager$Command" "fourth" "I") ∈ am_tb := am_tin 310 (by decide +kernel) rfl
theorem w_238 : (Jvm.Cond.fieldLink "TablePager$Command" (22 : Nat) "TablePager$Command" "fifth" "I") ∈ am_tb := am_tin 311 (by decide +kernel) rfl
theorem w_874 : (Jvm.Cond.methodLink "TablePager$Command" (25 : Nat) ({ cls := "TablePager$Command", name := "addsRow", desc := "(LTablePager$Table;)Z" } : Jvm.MethodName)) ∈ am_tb := am_tin 947 (by decide +kernel) rfl
theorem w_881 : (Jvm.Cond.methodLink "TablePager$Command" (29 : Nat) ({ cls := "TablePager$Command", name := "putsAmount", desc := "(LTablePager$Table;)Z" } : Jvm.MethodName)) ∈ am_tb := am_tin 954 (by decide +kernel) rfl
theorem w_892 : (Jvm.Cond.methodLink "TablePager$Command" (32 : Nat) ({ cls := "TablePager$Command", name := "marksRow", desc := "(LTablePager$Table;)Z" } : Jvm.MethodName)) ∈ am_tb := am_tin 965 (by decide +kernel) rfl
theorem w_896 : (Jvm.Cond.methodLink "TablePager$Command" (35 : Nat) ({ cls := "TablePager$Command", name := "dropsRow", desc := "(LTablePager$Table;)Z" } : Jvm.MethodName)) ∈ am_tb := am_tin 969 (by decide +kernel) rfl
theorem w_901 : (Jvm.Cond.methodLink "TablePager$Command" (38 : Nat) ({ cls := "TablePager$Command", name := "putsHeight", desc := "(LTablePager$Table;)Z" } : Jvm.MethodName)) ∈ am_tb := am_tin 974 (by decide +kernel) rfl
theorem w_907 : (Jvm.Cond.methodLink "TablePager$Command" (41 : Nat) ({ cls := "TablePager$Command", name := "holds", desc := "(LTablePager$Table;LTablePager$Layout;)Z" } : Jvm.MethodName)) ∈ am_tb := am_tin 980 (by decide +kernel) rfl
theorem w_69 : (Jvm.Cond.fieldLinkNest "TablePager$Command" (45 : Nat) "TablePager$Table" "pageHeight" "I" "TablePager") ∈ am_tb := am_tin 142 (by decide +kernel) rfl
theorem w_911 : (Jvm.Cond.methodLinkNest "TablePager$Command" (50 : Nat) ({ cls := "TablePager$Layout", name := "lay", desc := "(LTablePager$Table;I)V" } : Jvm.MethodName) "TablePager") ∈ am_tb := am_tin 984 (by decide +kernel) rfl
theorem w_194 : (Jvm.Cond.fieldLinkNest "TablePager$Command" (56 : Nat) "TablePager$Layout" "pages" "I" "TablePager") ∈ am_tb := am_tin 267 (by decide +kernel) rfl
theorem w_885 : (Jvm.Cond.methodLink "TablePager$Command" (59 : Nat) ({ cls := "TablePager$Command", name := "firstPair", desc := "()I" } : Jvm.MethodName)) ∈ am_tb := am_tin 958 (by decide +kernel) rfl
theorem w_912 : (Jvm.Cond.methodLinkNest "TablePager$Command" (63 : Nat) ({ cls := "TablePager$Layout", name := "hasPage", desc := "(I)Z" } : Jvm.MethodName) "TablePager") ∈ am_tb := am_tin 985 (by decide +kernel) rfl
theorem w_913 : (Jvm.Cond.methodLinkNest "TablePager$Command" (67 : Nat) ({ cls := "TablePager$Layout", name := "lastOf", desc := "(I)I" } : Jvm.MethodName) "TablePager") ∈ am_tb := am_tin 986 (by decide +kernel) rfl
theorem w_914 : (Jvm.Cond.methodLinkNest "TablePager$Command" (71 : Nat) ({ cls := "TablePager$Table", name := "hasSpan", desc := "(I)Z" } : Jvm.MethodName) "TablePager") ∈ am_tb := am_tin 987 (by decide +kernel) rfl
theorem w_915 : (Jvm.Cond.methodLinkNest "TablePager$Command" (74 : Nat) ({ cls := "TablePager$Layout", name := "pagesOfSpan", desc := "(LTablePager$Table;I)I" } : Jvm.MethodName) "TablePager") ∈ am_tb := am_tin 988 (by decide +kernel) rfl
theorem w_197 : (Jvm.Cond.fieldLinkNest "TablePager$Command" (78 : Nat) "TablePager$Layout" "overfull" "I" "TablePager") ∈ am_tb := am_tin 270 (by decide +kernel) rfl
theorem w_878 : (Jvm.Cond.methodLinkNest "TablePager$Command" (81 : Nat) ({ cls := "TablePager$Table", name := "allowsRow", desc := "(II)Z" } : Jvm.MethodName) "TablePager") ∈ am_tb := am_tin 951 (by decide +kernel) rfl
theorem w_879 : (Jvm.Cond.methodLinkNest "TablePager$Command" (85 : Nat) ({ cls := "TablePager$Table", name := "isFull", desc := "()Z" } : Jvm.MethodName) "TablePager") ∈ am_tb := am_tin 952 (by decide +kernel) rfl
theorem w_880 : (Jvm.Cond.methodLinkNest "TablePager$Command" (89 : Nat) ({ cls := "TablePager$Table", name := "putRow", desc := "(II)V" } : Jvm.MethodName) "TablePager") ∈ am_tb := am_tin 953 (by decide +kernel) rfl
theorem w_889 : (Jvm.Cond.methodLinkNest "TablePager$Command" (93 : Nat) ({ cls := "TablePager$Table", name := "hasRow", desc := "(I)Z" } : Jvm.MethodName) "TablePager") ∈ am_tb := am_tin 962 (by decide +kernel) rfl
theorem w_890 : (Jvm.Cond.methodLinkNest "TablePager$Command" (96 : Nat) ({ cls := "TablePager$Table", name := "hasColumn", desc := "(I)Z" } : Jvm.MethodName) "TablePager") ∈ am_tb := am_tin 963 (by decide +kernel) rfl
theorem w_891 : (Jvm.Cond.methodLinkNest "TablePager$Command" (99 : Nat) ({ cls := "TablePager$Table", name := "putAmount", desc := "(III)V" } : Jvm.MethodName) "TablePager") ∈ am_tb := am_tin 964 (by decide +kernel) rfl
theorem w_87 : (Jvm.Cond.fieldLinkNest "TablePager$Command" (103 : Nat) "TablePager$Table" "stays" "[Z" "TablePager") ∈ am_tb := am_tin 160 (by decide +kernel) rfl
theorem w_900 : (Jvm.Cond.methodLinkNest "TablePager$Command" (107 : Nat) ({ cls := "TablePager$Table", name := "dropRow", desc := "(I)I" } : Jvm.MethodName) "TablePager") ∈ am_tb := am_tin 973 (by decide +kernel) rfl
theorem w_905 : (Jvm.Cond.methodLinkNest "TablePager$Command" (110 : Nat) ({ cls := "TablePager$Table", name := "allowsHeight", desc := "(II)Z" } : Jvm.MethodName) "TablePager") ∈ am_tb := am_tin 978 (by decide +kernel) rfl
theorem w_906 : (Jvm.Cond.methodLinkNest "TablePager$Command" (113 : Nat) ({ cls := "TablePager$Table", name := "putHeight", desc := "(II)V" } : Jvm.MethodName) "TablePager") ∈ am_tb := am_tin 979 (by decide +kernel) rfl
theorem w_215 : (Jvm.Cond.methodLink "TablePager$Evener" (3 : Nat) ({ cls := "java/lang/Object", name := "<init>", desc := "()V" } : Jvm.MethodName)) ∈ am_tb := am_tin 288 (by decide +kernel) rfl
theorem w_218 : (Jvm.Cond.fieldLink "TablePager$Evener" (9 : Nat) "TablePager$Evener" "costs" "[I") ∈ am_tb := am_tin 291 (by decide +kernel) rfl
theorem w_219 : (Jvm.Cond.fieldLink "TablePager$Evener" (15 : Nat) "TablePager$Evener" "ends" "[I") ∈ am_tb := am_tin 292 (by decide +kernel) rfl
theorem w_216 : (Jvm.Cond.classLink "TablePager$Evener" (18 : Nat) "TablePager$Sheet") ∈ am_tb := am_tin 289 (by decide +kernel) rfl
theorem w_217 : (Jvm.Cond.methodLinkNest "TablePager$Evener" (20 : Nat) ({ cls := "TablePager$Sheet", name := "<init>", desc := "()V" } : Jvm.MethodName) "TablePager") ∈ am_tb := am_tin 290 (by decide +kernel) rfl
theorem w_220 : (Jvm.Cond.fieldLink "TablePager$Evener" (21 : Nat) "TablePager$Evener" "sheet" "LTablePager$Sheet;") ∈ am_tb := am_tin 293 (by decide +kernel) rfl
theorem w_824 : (Jvm.Cond.methodLinkNest "TablePager$Evener" (25 : Nat) ({ cls := "TablePager$Table", name := "endRows", desc := "()I" } : Jvm.MethodName) "TablePager") ∈ am_tb := am_tin 897 (by decide +kernel) rfl
theorem w_58 : (Jvm.Cond.fieldLinkNest "TablePager$Evener" (31 : Nat) "TablePager$Table" "rows" "I" "TablePager") ∈ am_tb := am_tin 131 (by decide +kernel) rfl
theorem w_825 : (Jvm.Cond.methodLink "TablePager$Evener" (35 : Nat) ({ cls := "TablePager$Evener", name := "chooseEnd", desc := "(LTablePager$Table;II)V" } : Jvm.MethodName)) ∈ am_tb := am_tin 898 (by decide +kernel) rfl
theorem w_829 : (Jvm.Cond.methodLinkNest "TablePager$Evener" (39 : Nat) ({ cls := "TablePager$Sheet", name := "begin", desc := "(LTablePager$Table;I)V" } : Jvm.MethodName) "TablePager") ∈ am_tb := am_tin 902 (by decide +kernel) rfl
theorem w_830 : (Jvm.Cond.methodLinkNest "TablePager$Evener" (43 : Nat) ({ cls := "TablePager$Sheet", name := "take", desc := "(LTablePager$Table;I)V" } : Jvm.MethodName) "TablePager") ∈ am_tb := am_tin 903 (by decide +kernel) rfl
theorem w_831 : (Jvm.Cond.methodLinkNest "TablePager$Evener" (46 : Nat) ({ cls := "TablePager", name := "isIn", desc := "(II)Z" } : Jvm.MethodName) "TablePager") ∈ am_tb := am_tin 904 (by decide +kernel) rfl
theorem w_832 : (Jvm.Cond.methodLink "TablePager$Evener" (50 : Nat) ({ cls := "TablePager$Evener", name := "costOfSheet", desc := "(LTablePager$Table;I)I" } : Jvm.MethodName)) ∈ am_tb := am_tin 905 (by decide +kernel) rfl
theorem w_68 : (Jvm.Cond.fieldLinkNest "TablePager$Evener" (54 : Nat) "TablePager$Table" "pageHeight" "I" "TablePager") ∈ am_tb := am_tin 141 (by decide +kernel) rfl
theorem w_836 : (Jvm.Cond.methodLinkNest "TablePager$Evener" (57 : Nat) ({ cls := "TablePager$Sheet", name := "needed", desc := "()I" } : Jvm.MethodName) "TablePager") ∈ am_tb := am_tin 909 (by decide +kernel) rfl
theorem w_841 : (Jvm.Cond.constant "TablePager$Evener" (60 : Nat) (-999999 : Int32)) ∈ am_tb := am_tin 914 (by decide +kernel) rfl
theorem w_137 : (Jvm.Cond.methodLink "TablePager$History" (3 : Nat) ({ cls := "java/lang/Object", name := "<init>", desc := "()V" } : Jvm.MethodName)) ∈ am_tb := am_tin 210 (by decide +kernel) rfl
theorem w_138 : (Jvm.Cond.classLink "TablePager$History" (9 : Nat) "TablePager$Table") ∈ am_tb := am_tin 211 (by decide +kernel) rfl
theorem w_141 : (Jvm.Cond.fieldLink "TablePager$History" (11 : Nat) "TablePager$History" "kept" "[LTablePager$Table;") ∈ am_tb := am_tin 214 (by decide +kernel) rfl
theorem w_140 : (Jvm.Cond.methodLinkNest "TablePager$History" (17 : Nat) ({ cls := "TablePager$Table", name := "<init>", desc := "()V" } : Jvm.MethodName) "TablePager") ∈ am_tb := am_tin 213 (by decide +kernel) rfl
theorem w_143 : (Jvm.Cond.fieldLink "TablePager$History" (18 : Nat) "TablePager$History" "count" "I") ∈ am_tb := am_tin 216 (by decide +kernel) rfl
theorem w_142 : (Jvm.Cond.fieldLink "TablePager$History" (22 : Nat) "TablePager$History" "next" "I") ∈ am_tb := am_tin 215 (by decide +kernel) rfl
theorem w_733 : (Jvm.Cond.methodLinkNest "TablePager$History" (25 : Nat) ({ cls := "TablePager$Table", name := "copyFrom", desc := "(LTablePager$Table;)V" } : Jvm.MethodName) "TablePager") ∈ am_tb := am_tin 806 (by decide +kernel) rfl
theorem w_734 : (Jvm.Cond.methodLink "TablePager$History" (29 : Nat) ({ cls := "java/lang/Math", name := "min", desc := "(II)I" } : Jvm.MethodName)) ∈ am_tb := am_tin 807 (by decide +kernel) rfl
theorem w_313 : (Jvm.Cond.static ({ cls := "java/lang/Math", name := "min", desc := "(II)I" } : Jvm.MethodName)) ∈ am_tb := am_tin 386 (by decide +kernel) rfl
theorem w_15 : (Jvm.Cond.initialized "java/lang/Math") ∈ am_tb := am_tin 88 (by decide +kernel) rfl
theorem w_314 : (Jvm.Cond.code ({ cls := "java/lang/Math", name := "min", desc := "(II)I" } : Jvm.MethodName) prog_16_method_69_code (2 : Nat) (Option.some Jvm.ClassFile.FieldType.int)) ∈ am_tb := am_tin 387 (by decide +kernel) rfl
theorem w_172 : (Jvm.Cond.methodLink "TablePager$Layout" (3 : Nat) ({ cls := "java/lang/Object", name := "<init>", desc := "()V" } : Jvm.MethodName)) ∈ am_tb := am_tin 245 (by decide +kernel) rfl
theorem w_199 : (Jvm.Cond.fieldLink "TablePager$Layout" (9 : Nat) "TablePager$Layout" "ends" "[I") ∈ am_tb := am_tin 272 (by decide +kernel) rfl
theorem w_173 : (Jvm.Cond.classLink "TablePager$Layout" (15 : Nat) "TablePager$Sheet") ∈ am_tb := am_tin 246 (by decide +kernel) rfl
theorem w_175 : (Jvm.Cond.methodLinkNest "TablePager$Layout" (17 : Nat) ({ cls := "TablePager$Sheet", name := "<init>", desc := "()V" } : Jvm.MethodName) "TablePager") ∈ am_tb := am_tin 248 (by decide +kernel) rfl
theorem w_200 : (Jvm.Cond.fieldLink "TablePager$Layout" (18 : Nat) "TablePager$Layout" "sheet" "LTablePager$Sheet;") ∈ am_tb := am_tin 273 (by decide +kernel) rfl
theorem w_519 : (Jvm.Cond.methodLinkNest "TablePager$Layout" (22 : Nat) ({ cls := "TablePager$Table", name := "endRows", desc := "()I" } : Jvm.MethodName) "TablePager") ∈ am_tb := am_tin 592 (by decide +kernel) rfl
theorem w_193 : (Jvm.Cond.fieldLink "TablePager$Layout" (28 : Nat) "TablePager$Layout" "pages" "I") ∈ am_tb := am_tin 266 (by decide +kernel) rfl
theorem w_196 : (Jvm.Cond.fieldLink "TablePager$Layout" (32 : Nat) "TablePager$Layout" "overfull" "I") ∈ am_tb := am_tin 269 (by decide +kernel) rfl
theorem w_59 : (Jvm.Cond.fieldLinkNest "TablePager$Layout" (35 : Nat) "TablePager$Table" "rows" "I" "TablePager") ∈ am_tb := am_tin 132 (by decide +kernel) rfl
theorem w_530 : (Jvm.Cond.methodLink "TablePager$Layout" (38 : Nat) ({ cls := "TablePager$Layout", name := "lastThatFits", desc := "(LTablePager$Table;III)I" } : Jvm.MethodName)) ∈ am_tb := am_tin 603 (by decide +kernel) rfl
theorem w_534 : (Jvm.Cond.constant "TablePager$Layout" (42 : Nat) (-999999 : Int32)) ∈ am_tb := am_tin 607 (by decide +kernel) rfl
theorem w_551 : (Jvm.Cond.methodLink "TablePager$Layout" (43 : Nat) ({ cls := "TablePager$Layout", name := "firstEnd", desc := "(II)I" } : Jvm.MethodName)) ∈ am_tb := am_tin 624 (by decide +kernel) rfl
theorem w_535 : (Jvm.Cond.methodLinkNest "TablePager$Layout" (47 : Nat) ({ cls := "TablePager$Sheet", name := "begin", desc := "(LTablePager$Table;I)V" } : Jvm.MethodName) "TablePager") ∈ am_tb := am_tin 608 (by decide +kernel) rfl
theorem w_539 : (Jvm.Cond.methodLinkNest "TablePager$Layout" (51 : Nat) ({ cls := "TablePager$Sheet", name := "take", desc := "(LTablePager$Table;I)V" } : Jvm.MethodName) "TablePager") ∈ am_tb := am_tin 612 (by decide +kernel) rfl
theorem w_546 : (Jvm.Cond.methodLinkNest "TablePager$Layout" (54 : Nat) ({ cls := "TablePager$Sheet", name := "needed", desc := "()I" } : Jvm.MethodName) "TablePager") ∈ am_tb := am_tin 619 (by decide +kernel) rfl
theorem w_550 : (Jvm.Cond.methodLinkNest "TablePager$Layout" (57 : Nat) ({ cls := "TablePager", name := "isIn", desc := "(II)Z" } : Jvm.MethodName) "TablePager") ∈ am_tb := am_tin 623 (by decide +kernel) rfl
theorem w_95 : (Jvm.Cond.fieldLinkNest "TablePager$Layout" (61 : Nat) "TablePager$Table" "lasts" "[I" "TablePager") ∈ am_tb := am_tin 168 (by decide +kernel) rfl
theorem w_562 : (Jvm.Cond.methodLink "TablePager$Layout" (64 : Nat) ({ cls := "TablePager$Layout", name := "pageOf", desc := "(I)I" } : Jvm.MethodName)) ∈ am_tb := am_tin 635 (by decide +kernel) rfl
theorem w_91 : (Jvm.Cond.fieldLinkNest "TablePager$Layout" (68 : Nat) "TablePager$Table" "firsts" "[I" "TablePager") ∈ am_tb := am_tin 164 (by decide +kernel) rfl
theorem w_66 : (Jvm.Cond.fieldLinkNest "TablePager$Layout" (71 : Nat) "TablePager$Table" "spans" "I" "TablePager") ∈ am_tb := am_tin 139 (by decide +kernel) rfl
theorem w_558 : (Jvm.Cond.methodLink "TablePager$Layout" (74 : Nat) ({ cls := "TablePager$Layout", name := "pagesOfSpan", desc := "(LTablePager$Table;I)I" } : Jvm.MethodName)) ∈ am_tb := am_tin 631 (by decide +kernel) rfl
theorem w_670 : (Jvm.Cond.methodLink "TablePager$Layout" (78 : Nat) ({ cls := "TablePager$Layout", name := "firstOf", desc := "(I)I" } : Jvm.MethodName)) ∈ am_tb := am_tin 743 (by decide +kernel) rfl
theorem w_674 : (Jvm.Cond.methodLink "TablePager$Layout" (81 : Nat) ({ cls := "TablePager$Layout", name := "lastOf", desc := "(I)I" } : Jvm.MethodName)) ∈ am_tb := am_tin 747 (by decide +kernel) rfl
theorem w_678 : (Jvm.Cond.methodLink "TablePager$Layout" (84 : Nat) ({ cls := "TablePager$Layout", name := "fill", desc := "(LTablePager$Table;II)V" } : Jvm.MethodName)) ∈ am_tb := am_tin 751 (by decide +kernel) rfl
theorem w_72 : (Jvm.Cond.fieldLinkNest "TablePager$Layout" (88 : Nat) "TablePager$Table" "pageHeight" "I" "TablePager") ∈ am_tb := am_tin 145 (by decide +kernel) rfl
theorem w_178 : (Jvm.Cond.methodLink "TablePager$Sheet" (1 : Nat) ({ cls := "java/lang/Object", name := "<init>", desc := "()V" } : Jvm.MethodName)) ∈ am_tb := am_tin 251 (by decide +kernel) rfl
theorem w_179 : (Jvm.Cond.fieldLink "TablePager$Sheet" (7 : Nat) "TablePager$Sheet" "names" "I") ∈ am_tb := am_tin 252 (by decide +kernel) rfl
theorem w_63 : (Jvm.Cond.fieldLinkNest "TablePager$Sheet" (13 : Nat) "TablePager$Table" "spans" "I" "TablePager") ∈ am_tb := am_tin 136 (by decide +kernel) rfl
theorem w_90 : (Jvm.Cond.fieldLinkNest "TablePager$Sheet" (18 : Nat) "TablePager$Table" "firsts" "[I" "TablePager") ∈ am_tb := am_tin 163 (by decide +kernel) rfl
theorem w_94 : (Jvm.Cond.fieldLinkNest "TablePager$Sheet" (22 : Nat) "TablePager$Table" "lasts" "[I" "TablePager") ∈ am_tb := am_tin 167 (by decide +kernel) rfl
theorem w_181 : (Jvm.Cond.fieldLink "TablePager$Sheet" (25 : Nat) "TablePager$Sheet" "notes" "I") ∈ am_tb := am_tin 254 (by decide +kernel) rfl
theorem w_74 : (Jvm.Cond.fieldLinkNest "TablePager$Sheet" (28 : Nat) "TablePager$Table" "headingHeight" "I" "TablePager") ∈ am_tb := am_tin 147 (by decide +kernel) rfl
theorem w_182 : (Jvm.Cond.fieldLink "TablePager$Sheet" (31 : Nat) "TablePager$Sheet" "lines" "I") ∈ am_tb := am_tin 255 (by decide +kernel) rfl
theorem w_183 : (Jvm.Cond.fieldLink "TablePager$Sheet" (34 : Nat) "TablePager$Sheet" "carry" "I") ∈ am_tb := am_tin 256 (by decide +kernel) rfl
theorem w_78 : (Jvm.Cond.fieldLinkNest "TablePager$Sheet" (37 : Nat) "TablePager$Table" "heights" "[I" "TablePager") ∈ am_tb := am_tin 151 (by decide +kernel) rfl
theorem w_81 : (Jvm.Cond.fieldLinkNest "TablePager$Sheet" (40 : Nat) "TablePager$Table" "notes" "[I" "TablePager") ∈ am_tb := am_tin 154 (by decide +kernel) rfl
theorem w_543 : (Jvm.Cond.methodLinkNest "TablePager$Sheet" (42 : Nat) ({ cls := "TablePager", name := "isIn", desc := "(II)Z" } : Jvm.MethodName) "TablePager") ∈ am_tb := am_tin 616 (by decide +kernel) rfl
theorem w_100 : (Jvm.Cond.fieldLinkNest "TablePager$Sheet" (48 : Nat) "TablePager$Table" "noteHeights" "[I" "TablePager") ∈ am_tb := am_tin 173 (by decide +kernel) rfl
theorem w_60 : (Jvm.Cond.fieldLinkNest "TablePager$Sheet" (51 : Nat) "TablePager$Table" "rows" "I" "TablePager") ∈ am_tb := am_tin 133 (by decide +kernel) rfl
theorem w_157 : (Jvm.Cond.methodLink "TablePager$Slots" (3 : Nat) ({ cls := "java/lang/Object", name := "<init>", desc := "()V" } : Jvm.MethodName)) ∈ am_tb := am_tin 230 (by decide +kernel) rfl
theorem w_158 : (Jvm.Cond.classLink "TablePager$Slots" (9 : Nat) "TablePager$Table") ∈ am_tb := am_tin 231 (by decide +kernel) rfl
theorem w_160 : (Jvm.Cond.fieldLink "TablePager$Slots" (11 : Nat) "TablePager$Slots" "kept" "[LTablePager$Table;") ∈ am_tb := am_tin 233 (by decide +kernel) rfl
theorem w_161 : (Jvm.Cond.fieldLink "TablePager$Slots" (17 : Nat) "TablePager$Slots" "filled" "[Z") ∈ am_tb := am_tin 234 (by decide +kernel) rfl
theorem w_159 : (Jvm.Cond.methodLinkNest "TablePager$Slots" (21 : Nat) ({ cls := "TablePager$Table", name := "<init>", desc := "()V" } : Jvm.MethodName) "TablePager") ∈ am_tb := am_tin 232 (by decide +kernel) rfl
theorem w_473 : (Jvm.Cond.methodLinkNest "TablePager$Slots" (22 : Nat) ({ cls := "TablePager$Table", name := "copyFrom", desc := "(LTablePager$Table;)V" } : Jvm.MethodName) "TablePager") ∈ am_tb := am_tin 546 (by decide +kernel) rfl
theorem w_31 : (Jvm.Cond.methodLink "TablePager$Text" (3 : Nat) ({ cls := "java/lang/Object", name := "<init>", desc := "()V" } : Jvm.MethodName)) ∈ am_tb := am_tin 104 (by decide +kernel) rfl
theorem w_43 : (Jvm.Cond.arrayClass Jvm.ClassFile.FieldType.char) ∈ am_tb := am_tin 116 (by decide +kernel) rfl
theorem w_32 : (Jvm.Cond.fieldLink "TablePager$Text" (9 : Nat) "TablePager$Text" "signs" "[C") ∈ am_tb := am_tin 105 (by decide +kernel) rfl
theorem w_33 : (Jvm.Cond.fieldLink "TablePager$Text" (15 : Nat) "TablePager$Text" "length" "I") ∈ am_tb := am_tin 106 (by decide +kernel) rfl
theorem w_35 : (Jvm.Cond.fieldLink "TablePager$Text" (19 : Nat) "TablePager$Text" "at" "I") ∈ am_tb := am_tin 108 (by decide +kernel) rfl
theorem w_292 : (Jvm.Cond.methodLinkNest "TablePager$Text" (22 : Nat) ({ cls := "TablePager$Table", name := "makeNew", desc := "()V" } : Jvm.MethodName) "TablePager") ∈ am_tb := am_tin 365 (by decide +kernel) rfl
theorem w_293 : (Jvm.Cond.methodLink "TablePager$Text" (27 : Nat) ({ cls := "TablePager$Text", name := "readHead", desc := "(LTablePager$Table;)Z" } : Jvm.MethodName)) ∈ am_tb := am_tin 366 (by decide +kernel) rfl
theorem w_315 : (Jvm.Cond.methodLink "TablePager$Text" (31 : Nat) ({ cls := "TablePager$Text", name := "readPart", desc := "(LTablePager$Table;)Z" } : Jvm.MethodName)) ∈ am_tb := am_tin 388 (by decide +kernel) rfl
theorem w_356 : (Jvm.Cond.constant "TablePager$Text" (34 : Nat) (-999999 : Int32)) ∈ am_tb := am_tin 429 (by decide +kernel) rfl
theorem w_297 : (Jvm.Cond.methodLink "TablePager$Text" (35 : Nat) ({ cls := "TablePager$Text", name := "takeSign", desc := "(C)Z" } : Jvm.MethodName)) ∈ am_tb := am_tin 370 (by decide +kernel) rfl
theorem w_301 : (Jvm.Cond.methodLink "TablePager$Text" (39 : Nat) ({ cls := "TablePager$Text", name := "takeDigit", desc := "(II)I" } : Jvm.MethodName)) ∈ am_tb := am_tin 374 (by decide +kernel) rfl
theorem w_305 : (Jvm.Cond.methodLink "TablePager$Text" (43 : Nat) ({ cls := "TablePager$Text", name := "takePair", desc := "(II)I" } : Jvm.MethodName)) ∈ am_tb := am_tin 378 (by decide +kernel) rfl
theorem w_55 : (Jvm.Cond.fieldLinkNest "TablePager$Text" (46 : Nat) "TablePager$Table" "columns" "I" "TablePager") ∈ am_tb := am_tin 128 (by decide +kernel) rfl
theorem w_70 : (Jvm.Cond.fieldLinkNest "TablePager$Text" (49 : Nat) "TablePager$Table" "pageHeight" "I" "TablePager") ∈ am_tb := am_tin 143 (by decide +kernel) rfl
theorem w_75 : (Jvm.Cond.fieldLinkNest "TablePager$Text" (52 : Nat) "TablePager$Table" "headingHeight" "I" "TablePager") ∈ am_tb := am_tin 148 (by decide +kernel) rfl
theorem w_319 : (Jvm.Cond.methodLinkNest "TablePager$Text" (55 : Nat) ({ cls := "TablePager$Table", name := "isFull", desc := "()Z" } : Jvm.MethodName) "TablePager") ∈ am_tb := am_tin 392 (by decide +kernel) rfl
theorem w_323 : (Jvm.Cond.methodLink "TablePager$Text" (59 : Nat) ({ cls := "TablePager$Text", name := "readRow", desc := "(LTablePager$Table;)Z" } : Jvm.MethodName)) ∈ am_tb := am_tin 396 (by decide +kernel) rfl
theorem w_62 : (Jvm.Cond.fieldLinkNest "TablePager$Text" (62 : Nat) "TablePager$Table" "rows" "I" "TablePager") ∈ am_tb := am_tin 135 (by decide +kernel) rfl
theorem w_85 : (Jvm.Cond.fieldLinkNest "TablePager$Text" (65 : Nat) "TablePager$Table" "stays" "[Z" "TablePager") ∈ am_tb := am_tin 158 (by decide +kernel) rfl
theorem w_336 : (Jvm.Cond.methodLink "TablePager$Text" (69 : Nat) ({ cls := "TablePager$Text", name := "readNote", desc := "(LTablePager$Table;)Z" } : Jvm.MethodName)) ∈ am_tb := am_tin 409 (by decide +kernel) rfl
theorem w_340 : (Jvm.Cond.methodLink "TablePager$Text" (72 : Nat) ({ cls := "TablePager$Text", name := "readNoteHeight", desc := "(LTablePager$Table;)Z" } : Jvm.MethodName)) ∈ am_tb := am_tin 413 (by decide +kernel) rfl
theorem w_344 : (Jvm.Cond.methodLinkNest "TablePager$Text" (75 : Nat) ({ cls := "TablePager$Table", name := "hasAllSpans", desc := "()Z" } : Jvm.MethodName) "TablePager") ∈ am_tb := am_tin 417 (by decide +kernel) rfl
theorem w_348 : (Jvm.Cond.methodLink "TablePager$Text" (78 : Nat) ({ cls := "TablePager$Text", name := "readSpan", desc := "(LTablePager$Table;)Z" } : Jvm.MethodName)) ∈ am_tb := am_tin 421 (by decide +kernel) rfl
theorem w_327 : (Jvm.Cond.methodLinkNest "TablePager$Text" (81 : Nat) ({ cls := "TablePager$Table", name := "putRow", desc := "(II)V" } : Jvm.MethodName) "TablePager") ∈ am_tb := am_tin 400 (by decide +kernel) rfl
theorem w_335 : (Jvm.Cond.methodLinkNest "TablePager$Text" (85 : Nat) ({ cls := "TablePager$Table", name := "putAmount", desc := "(III)V" } : Jvm.MethodName) "TablePager") ∈ am_tb := am_tin 408 (by decide +kernel) rfl
theorem w_83 : (Jvm.Cond.fieldLinkNest "TablePager$Text" (89 : Nat) "TablePager$Table" "notes" "[I" "TablePager") ∈ am_tb := am_tin 156 (by decide +kernel) rfl
theorem w_101 : (Jvm.Cond.fieldLinkNest "TablePager$Text" (93 : Nat) "TablePager$Table" "noteHeights" "[I" "TablePager") ∈ am_tb := am_tin 174 (by decide +kernel) rfl
theorem w_352 : (Jvm.Cond.methodLinkNest "TablePager$Text" (96 : Nat) ({ cls := "TablePager$Table", name := "putSpan", desc := "(IIZ)V" } : Jvm.MethodName) "TablePager") ∈ am_tb := am_tin 425 (by decide +kernel) rfl
theorem w_309 : (Jvm.Cond.methodLink "TablePager$Text" (100 : Nat) ({ cls := "java/lang/Math", name := "max", desc := "(II)I" } : Jvm.MethodName)) ∈ am_tb := am_tin 382 (by decide +kernel) rfl
theorem w_310 : (Jvm.Cond.static ({ cls := "java/lang/Math", name := "max", desc := "(II)I" } : Jvm.MethodName)) ∈ am_tb := am_tin 383 (by decide +kernel) rfl
theorem w_311 : (Jvm.Cond.code ({ cls := "java/lang/Math", name := "max", desc := "(II)I" } : Jvm.MethodName) prog_16_method_65_code (2 : Nat) (Option.some Jvm.ClassFile.FieldType.int)) ∈ am_tb := am_tin 384 (by decide +kernel) rfl
theorem w_312 : (Jvm.Cond.methodLink "TablePager$Text" (105 : Nat) ({ cls := "java/lang/Math", name := "min", desc := "(II)I" } : Jvm.MethodName)) ∈ am_tb := am_tin 385 (by decide +kernel) rfl
theorem w_23 : (Jvm.Cond.methodLink "TablePager" (1 : Nat) ({ cls := "java/lang/Object", name := "<init>", desc := "()V" } : Jvm.MethodName)) ∈ am_tb := am_tin 96 (by decide +kernel) rfl
theorem w_26 : (Jvm.Cond.classLink "TablePager" (7 : Nat) "TablePager$Text") ∈ am_tb := am_tin 99 (by decide +kernel) rfl
theorem w_28 : (Jvm.Cond.methodLinkNest "TablePager" (9 : Nat) ({ cls := "TablePager$Text", name := "<init>", desc := "()V" } : Jvm.MethodName) "TablePager") ∈ am_tb := am_tin 101 (by decide +kernel) rfl
theorem w_250 : (Jvm.Cond.fieldLink "TablePager" (10 : Nat) "TablePager" "text" "LTablePager$Text;") ∈ am_tb := am_tin 323 (by decide +kernel) rfl
theorem w_44 : (Jvm.Cond.classLink "TablePager" (16 : Nat) "TablePager$Table") ∈ am_tb := am_tin 117 (by decide +kernel) rfl
theorem w_46 : (Jvm.Cond.methodLinkNest "TablePager" (18 : Nat) ({ cls := "TablePager$Table", name := "<init>", desc := "()V" } : Jvm.MethodName) "TablePager") ∈ am_tb := am_tin 119 (by decide +kernel) rfl
theorem w_251 : (Jvm.Cond.fieldLink "TablePager" (19 : Nat) "TablePager" "table" "LTablePager$Table;") ∈ am_tb := am_tin 324 (by decide +kernel) rfl
theorem w_132 : (Jvm.Cond.classLink "TablePager" (23 : Nat) "TablePager$History") ∈ am_tb := am_tin 205 (by decide +kernel) rfl
theorem w_134 : (Jvm.Cond.methodLinkNest "TablePager" (25 : Nat) ({ cls := "TablePager$History", name := "<init>", desc := "()V" } : Jvm.MethodName) "TablePager") ∈ am_tb := am_tin 207 (by decide +kernel) rfl
theorem w_252 : (Jvm.Cond.fieldLink "TablePager" (26 : Nat) "TablePager" "history" "LTablePager$History;") ∈ am_tb := am_tin 325 (by decide +kernel) rfl
theorem w_152 : (Jvm.Cond.classLink "TablePager" (30 : Nat) "TablePager$Slots") ∈ am_tb := am_tin 225 (by decide +kernel) rfl
theorem w_154 : (Jvm.Cond.methodLinkNest "TablePager" (32 : Nat) ({ cls := "TablePager$Slots", name := "<init>", desc := "()V" } : Jvm.MethodName) "TablePager") ∈ am_tb := am_tin 227 (by decide +kernel) rfl
theorem w_253 : (Jvm.Cond.fieldLink "TablePager" (33 : Nat) "TablePager" "slots" "LTablePager$Slots;") ∈ am_tb := am_tin 326 (by decide +kernel) rfl
theorem w_167 : (Jvm.Cond.classLink "TablePager" (37 : Nat) "TablePager$Layout") ∈ am_tb := am_tin 240 (by decide +kernel) rfl
theorem w_169 : (Jvm.Cond.methodLinkNest "TablePager" (39 : Nat) ({ cls := "TablePager$Layout", name := "<init>", desc := "()V" } : Jvm.MethodName) "TablePager") ∈ am_tb := am_tin 242 (by decide +kernel) rfl
theorem w_254 : (Jvm.Cond.fieldLink "TablePager" (40 : Nat) "TablePager" "layout" "LTablePager$Layout;") ∈ am_tb := am_tin 327 (by decide +kernel) rfl
theorem w_210 : (Jvm.Cond.classLink "TablePager" (44 : Nat) "TablePager$Evener") ∈ am_tb := am_tin 283 (by decide +kernel) rfl
theorem w_212 : (Jvm.Cond.methodLinkNest "TablePager" (46 : Nat) ({ cls := "TablePager$Evener", name := "<init>", desc := "()V" } : Jvm.MethodName) "TablePager") ∈ am_tb := am_tin 285 (by decide +kernel) rfl
theorem w_255 : (Jvm.Cond.fieldLink "TablePager" (47 : Nat) "TablePager" "evener" "LTablePager$Evener;") ∈ am_tb := am_tin 328 (by decide +kernel) rfl
theorem w_228 : (Jvm.Cond.classLink "TablePager" (51 : Nat) "TablePager$Command") ∈ am_tb := am_tin 301 (by decide +kernel) rfl
theorem w_230 : (Jvm.Cond.methodLinkNest "TablePager" (53 : Nat) ({ cls := "TablePager$Command", name := "<init>", desc := "()V" } : Jvm.MethodName) "TablePager") ∈ am_tb := am_tin 303 (by decide +kernel) rfl
theorem w_256 : (Jvm.Cond.fieldLink "TablePager" (54 : Nat) "TablePager" "command" "LTablePager$Command;") ∈ am_tb := am_tin 329 (by decide +kernel) rfl
theorem w_257 : (Jvm.Cond.fieldLink "TablePager" (58 : Nat) "TablePager" "scratch" "LTablePager$Table;") ∈ am_tb := am_tin 330 (by decide +kernel) rfl
theorem w_943 : (Jvm.Cond.methodLinkNest "TablePager" (68 : Nat) ({ cls := "TablePager$Text", name := "isFull", desc := "()Z" } : Jvm.MethodName) "TablePager") ∈ am_tb := am_tin 1016 (by decide +kernel) rfl
theorem w_948 : (Jvm.Cond.methodLinkNest "TablePager" (77 : Nat) ({ cls := "TablePager$Text", name := "put", desc := "(C)V" } : Jvm.MethodName) "TablePager") ∈ am_tb := am_tin 1021 (by decide +kernel) rfl
theorem w_34 : (Jvm.Cond.fieldLinkNest "TablePager" (81 : Nat) "TablePager$Text" "length" "I" "TablePager") ∈ am_tb := am_tin 107 (by decide +kernel) rfl
theorem w_288 : (Jvm.Cond.methodLinkNest "TablePager" (85 : Nat) ({ cls := "TablePager$Text", name := "readInto", desc := "(LTablePager$Table;)I" } : Jvm.MethodName) "TablePager") ∈ am_tb := am_tin 361 (by decide +kernel) rfl
theorem w_357 : (Jvm.Cond.constant "TablePager" (89 : Nat) (-999999 : Int32)) ∈ am_tb := am_tin 430 (by decide +kernel) rfl
theorem w_426 : (Jvm.Cond.methodLinkNest "TablePager" (92 : Nat) ({ cls := "TablePager$Table", name := "copyFrom", desc := "(LTablePager$Table;)V" } : Jvm.MethodName) "TablePager") ∈ am_tb := am_tin 499 (by decide +kernel) rfl
theorem w_433 : (Jvm.Cond.methodLinkNest "TablePager" (96 : Nat) ({ cls := "TablePager$History", name := "forget", desc := "()V" } : Jvm.MethodName) "TablePager") ∈ am_tb := am_tin 506 (by decide +kernel) rfl
theorem w_437 : (Jvm.Cond.methodLinkNest "TablePager" (99 : Nat) ({ cls := "TablePager$Slots", name := "empty", desc := "()V" } : Jvm.MethodName) "TablePager") ∈ am_tb := am_tin 510 (by decide +kernel) rfl
theorem w_61 : (Jvm.Cond.fieldLinkNest "TablePager" (102 : Nat) "TablePager$Table" "rows" "I" "TablePager") ∈ am_tb := am_tin 134 (by decide +kernel) rfl
theorem w_56 : (Jvm.Cond.fieldLinkNest "TablePager" (105 : Nat) "TablePager$Table" "columns" "I" "TablePager") ∈ am_tb := am_tin 129 (by decide +kernel) rfl
theorem w_65 : (Jvm.Cond.fieldLinkNest "TablePager" (108 : Nat) "TablePager$Table" "spans" "I" "TablePager") ∈ am_tb := am_tin 138 (by decide +kernel) rfl
theorem w_71 : (Jvm.Cond.fieldLinkNest "TablePager" (111 : Nat) "TablePager$Table" "pageHeight" "I" "TablePager") ∈ am_tb := am_tin 144 (by decide +kernel) rfl
theorem w_76 : (Jvm.Cond.fieldLinkNest "TablePager" (114 : Nat) "TablePager$Table" "headingHeight" "I" "TablePager") ∈ am_tb := am_tin 149 (by decide +kernel) rfl
theorem w_507 : (Jvm.Cond.methodLink "TablePager" (117 : Nat) ({ cls := "TablePager", name := "countPages", desc := "()I" } : Jvm.MethodName)) ∈ am_tb := am_tin 580 (by decide +kernel) rfl
theorem w_511 : (Jvm.Cond.methodLink "TablePager" (121 : Nat) ({ cls := "TablePager", name := "layOut", desc := "()V" } : Jvm.MethodName)) ∈ am_tb := am_tin 584 (by decide +kernel) rfl
theorem w_198 : (Jvm.Cond.fieldLinkNest "TablePager" (124 : Nat) "TablePager$Layout" "overfull" "I" "TablePager") ∈ am_tb := am_tin 271 (by decide +kernel) rfl
theorem w_554 : (Jvm.Cond.methodLinkNest "TablePager" (127 : Nat) ({ cls := "TablePager$Layout", name := "countCutSpans", desc := "(LTablePager$Table;)I" } : Jvm.MethodName) "TablePager") ∈ am_tb := am_tin 627 (by decide +kernel) rfl
theorem w_598 : (Jvm.Cond.methodLink "TablePager" (132 : Nat) ({ cls := "TablePager", name := "requireRow", desc := "(I)V" } : Jvm.MethodName)) ∈ am_tb := am_tin 671 (by decide +kernel) rfl
theorem w_79 : (Jvm.Cond.fieldLinkNest "TablePager" (136 : Nat) "TablePager$Table" "heights" "[I" "TablePager") ∈ am_tb := am_tin 152 (by decide +kernel) rfl
theorem w_82 : (Jvm.Cond.fieldLinkNest "TablePager" (140 : Nat) "TablePager$Table" "notes" "[I" "TablePager") ∈ am_tb := am_tin 155 (by decide +kernel) rfl
theorem w_86 : (Jvm.Cond.fieldLinkNest "TablePager" (143 : Nat) "TablePager$Table" "stays" "[Z" "TablePager") ∈ am_tb := am_tin 159 (by decide +kernel) rfl
theorem w_607 : (Jvm.Cond.methodLinkNest "TablePager" (147 : Nat) ({ cls := "TablePager$Table", name := "cutRows", desc := "()I" } : Jvm.MethodName) "TablePager") ∈ am_tb := am_tin 680 (by decide +kernel) rfl
theorem w_608 : (Jvm.Cond.methodLink "TablePager" (150 : Nat) ({ cls := "TablePager", name := "isIn", desc := "(II)Z" } : Jvm.MethodName)) ∈ am_tb := am_tin 681 (by decide +kernel) rfl
theorem w_609 : (Jvm.Cond.methodLinkNest "TablePager" (154 : Nat) ({ cls := "TablePager$Layout", name := "pageOf", desc := "(I)I" } : Jvm.MethodName) "TablePager") ∈ am_tb := am_tin 682 (by decide +kernel) rfl
theorem w_618 : (Jvm.Cond.methodLink "TablePager" (160 : Nat) ({ cls := "TablePager", name := "requireColumn", desc := "(I)V" } : Jvm.MethodName)) ∈ am_tb := am_tin 691 (by decide +kernel) rfl
theorem w_627 : (Jvm.Cond.methodLinkNest "TablePager" (163 : Nat) ({ cls := "TablePager$Table", name := "amountAt", desc := "(II)I" } : Jvm.MethodName) "TablePager") ∈ am_tb := am_tin 700 (by decide +kernel) rfl
theorem w_639 : (Jvm.Cond.methodLink "TablePager" (167 : Nat) ({ cls := "TablePager", name := "requireSpan", desc := "(I)V" } : Jvm.MethodName)) ∈ am_tb := am_tin 712 (by decide +kernel) rfl
theorem w_92 : (Jvm.Cond.fieldLinkNest "TablePager" (170 : Nat) "TablePager$Table" "firsts" "[I" "TablePager") ∈ am_tb := am_tin 165 (by decide +kernel) rfl
theorem w_96 : (Jvm.Cond.fieldLinkNest "TablePager" (173 : Nat) "TablePager$Table" "lasts" "[I" "TablePager") ∈ am_tb := am_tin 169 (by decide +kernel) rfl
theorem w_98 : (Jvm.Cond.fieldLinkNest "TablePager" (176 : Nat) "TablePager$Table" "mayBeCut" "[Z" "TablePager") ∈ am_tb := am_tin 171 (by decide +kernel) rfl
theorem w_648 : (Jvm.Cond.methodLinkNest "TablePager" (179 : Nat) ({ cls := "TablePager$Layout", name := "pagesOfSpan", desc := "(LTablePager$Table;I)I" } : Jvm.MethodName) "TablePager") ∈ am_tb := am_tin 721 (by decide +kernel) rfl
theorem w_102 : (Jvm.Cond.fieldLinkNest "TablePager" (187 : Nat) "TablePager$Table" "noteHeights" "[I" "TablePager") ∈ am_tb := am_tin 175 (by decide +kernel) rfl
theorem w_657 : (Jvm.Cond.methodLink "TablePager" (190 : Nat) ({ cls := "TablePager", name := "requirePage", desc := "(I)V" } : Jvm.MethodName)) ∈ am_tb := am_tin 730 (by decide +kernel) rfl
theorem w_666 : (Jvm.Cond.methodLinkNest "TablePager" (193 : Nat) ({ cls := "TablePager$Layout", name := "sheetOf", desc := "(LTablePager$Table;I)LTablePager$Sheet;" } : Jvm.MethodName) "TablePager") ∈ am_tb := am_tin 739 (by decide +kernel) rfl
theorem w_682 : (Jvm.Cond.methodLinkNest "TablePager" (197 : Nat) ({ cls := "TablePager$Layout", name := "firstOf", desc := "(I)I" } : Jvm.MethodName) "TablePager") ∈ am_tb := am_tin 755 (by decide +kernel) rfl
theorem w_683 : (Jvm.Cond.methodLinkNest "TablePager" (200 : Nat) ({ cls := "TablePager$Layout", name := "lastOf", desc := "(I)I" } : Jvm.MethodName) "TablePager") ∈ am_tb := am_tin 756 (by decide +kernel) rfl
theorem w_684 : (Jvm.Cond.methodLinkNest "TablePager" (203 : Nat) ({ cls := "TablePager$Sheet", name := "needed", desc := "()I" } : Jvm.MethodName) "TablePager") ∈ am_tb := am_tin 757 (by decide +kernel) rfl
theorem w_180 : (Jvm.Cond.fieldLinkNest "TablePager" (208 : Nat) "TablePager$Sheet" "names" "I" "TablePager") ∈ am_tb := am_tin 253 (by decide +kernel) rfl
theorem w_685 : (Jvm.Cond.methodLinkNest "TablePager" (211 : Nat) ({ cls := "TablePager$Sheet", name := "noteBits", desc := "()I" } : Jvm.MethodName) "TablePager") ∈ am_tb := am_tin 758 (by decide +kernel) rfl
theorem w_697 : (Jvm.Cond.methodLinkNest "TablePager" (216 : Nat) ({ cls := "TablePager$Table", name := "sumOfRows", desc := "(III)I" } : Jvm.MethodName) "TablePager") ∈ am_tb := am_tin 770 (by decide +kernel) rfl
theorem w_195 : (Jvm.Cond.fieldLinkNest "TablePager" (220 : Nat) "TablePager$Layout" "pages" "I" "TablePager") ∈ am_tb := am_tin 268 (by decide +kernel) rfl
theorem w_723 : (Jvm.Cond.methodLinkNest "TablePager" (223 : Nat) ({ cls := "TablePager$Table", name := "allowsRow", desc := "(II)Z" } : Jvm.MethodName) "TablePager") ∈ am_tb := am_tin 796 (by decide +kernel) rfl
theorem w_727 : (Jvm.Cond.methodLinkNest "TablePager" (228 : Nat) ({ cls := "TablePager$Table", name := "isFull", desc := "()Z" } : Jvm.MethodName) "TablePager") ∈ am_tb := am_tin 800 (by decide +kernel) rfl
theorem w_729 : (Jvm.Cond.methodLinkNest "TablePager" (231 : Nat) ({ cls := "TablePager$History", name := "remember", desc := "(LTablePager$Table;)V" } : Jvm.MethodName) "TablePager") ∈ am_tb := am_tin 802 (by decide +kernel) rfl
theorem w_735 : (Jvm.Cond.methodLinkNest "TablePager" (234 : Nat) ({ cls := "TablePager$Table", name := "putRow", desc := "(II)V" } : Jvm.MethodName) "TablePager") ∈ am_tb := am_tin 808 (by decide +kernel) rfl
theorem w_744 : (Jvm.Cond.methodLinkNest "TablePager" (240 : Nat) ({ cls := "TablePager$Table", name := "putAmount", desc := "(III)V" } : Jvm.MethodName) "TablePager") ∈ am_tb := am_tin 817 (by decide +kernel) rfl
theorem w_770 : (Jvm.Cond.methodLinkNest "TablePager" (244 : Nat) ({ cls := "TablePager$Table", name := "dropRow", desc := "(I)I" } : Jvm.MethodName) "TablePager") ∈ am_tb := am_tin 843 (by decide +kernel) rfl
theorem w_753 : (Jvm.Cond.methodLinkNest "TablePager" (249 : Nat) ({ cls := "TablePager$Table", name := "hasAllSpans", desc := "()Z" } : Jvm.MethodName) "TablePager") ∈ am_tb := am_tin 826 (by decide +kernel) rfl
theorem w_755 : (Jvm.Cond.methodLinkNest "TablePager" (254 : Nat) ({ cls := "TablePager$Table", name := "putSpan", desc := "(IIZ)V" } : Jvm.MethodName) "TablePager") ∈ am_tb := am_tin 828 (by decide +kernel) rfl
theorem w_786 : (Jvm.Cond.methodLinkNest "TablePager" (258 : Nat) ({ cls := "TablePager$Table", name := "dropSpan", desc := "(I)V" } : Jvm.MethodName) "TablePager") ∈ am_tb := am_tin 859 (by decide +kernel) rfl
theorem w_797 : (Jvm.Cond.methodLinkNest "TablePager" (261 : Nat) ({ cls := "TablePager$Table", name := "allowsHeight", desc := "(II)Z" } : Jvm.MethodName) "TablePager") ∈ am_tb := am_tin 870 (by decide +kernel) rfl
theorem w_801 : (Jvm.Cond.methodLinkNest "TablePager" (266 : Nat) ({ cls := "TablePager$Table", name := "putHeight", desc := "(II)V" } : Jvm.MethodName) "TablePager") ∈ am_tb := am_tin 874 (by decide +kernel) rfl
theorem w_144 : (Jvm.Cond.fieldLinkNest "TablePager" (269 : Nat) "TablePager$History" "count" "I" "TablePager") ∈ am_tb := am_tin 217 (by decide +kernel) rfl
theorem w_973 : (Jvm.Cond.methodLinkNest "TablePager" (274 : Nat) ({ cls := "TablePager$History", name := "takeBack", desc := "(LTablePager$Table;)V" } : Jvm.MethodName) "TablePager") ∈ am_tb := am_tin 1046 (by decide +kernel) rfl
theorem w_515 : (Jvm.Cond.methodLinkNest "TablePager" (279 : Nat) ({ cls := "TablePager$Layout", name := "lay", desc := "(LTablePager$Table;I)V" } : Jvm.MethodName) "TablePager") ∈ am_tb := am_tin 588 (by decide +kernel) rfl
theorem w_820 : (Jvm.Cond.methodLinkNest "TablePager" (283 : Nat) ({ cls := "TablePager$Evener", name := "leastCost", desc := "(LTablePager$Table;)I" } : Jvm.MethodName) "TablePager") ∈ am_tb := am_tin 893 (by decide +kernel) rfl
theorem w_837 : (Jvm.Cond.methodLinkNest "TablePager" (288 : Nat) ({ cls := "TablePager$Evener", name := "lastOf", desc := "(LTablePager$Table;I)I" } : Jvm.MethodName) "TablePager") ∈ am_tb := am_tin 910 (by decide +kernel) rfl
theorem w_849 : (Jvm.Cond.methodLinkNest "TablePager" (290 : Nat) ({ cls := "TablePager$Layout", name := "emptyFromRow", desc := "(LTablePager$Table;I)I" } : Jvm.MethodName) "TablePager") ∈ am_tb := am_tin 922 (by decide +kernel) rfl
theorem w_861 : (Jvm.Cond.methodLink "TablePager" (295 : Nat) ({ cls := "TablePager", name := "withoutGroups", desc := "(JI)J" } : Jvm.MethodName)) ∈ am_tb := am_tin 934 (by decide +kernel) rfl
theorem w_864 : (Jvm.Cond.constantLong "TablePager" (301 : Nat) (100000 : Int64)) ∈ am_tb := am_tin 937 (by decide +kernel) rfl
theorem w_866 : (Jvm.Cond.methodLinkNest "TablePager" (303 : Nat) ({ cls := "TablePager$Command", name := "setDigits", desc := "(I)V" } : Jvm.MethodName) "TablePager") ∈ am_tb := am_tin 939 (by decide +kernel) rfl
theorem w_870 : (Jvm.Cond.methodLinkNest "TablePager" (306 : Nat) ({ cls := "TablePager$Command", name := "runOn", desc := "(LTablePager$Table;LTablePager$Layout;)Z" } : Jvm.MethodName) "TablePager") ∈ am_tb := am_tin 943 (by decide +kernel) rfl
theorem w_925 : (Jvm.Cond.constantLong "TablePager" (312 : Nat) (6364136223846793005 : Int64)) ∈ am_tb := am_tin 998 (by decide +kernel) rfl
theorem w_926 : (Jvm.Cond.constantLong "TablePager" (314 : Nat) (1442695040888963407 : Int64)) ∈ am_tb := am_tin 999 (by decide +kernel) rfl
theorem w_927 : (Jvm.Cond.methodLinkNest "TablePager" (316 : Nat) ({ cls := "TablePager$Table", name := "playRound", desc := "(I)V" } : Jvm.MethodName) "TablePager") ∈ am_tb := am_tin 1000 (by decide +kernel) rfl
theorem w_934 : (Jvm.Cond.methodLink "TablePager" (319 : Nat) ({ cls := "java/lang/Math", name := "min", desc := "(II)I" } : Jvm.MethodName)) ∈ am_tb := am_tin 1007 (by decide +kernel) rfl
theorem w_450 : (Jvm.Cond.methodLink "TablePager" (324 : Nat) ({ cls := "TablePager", name := "requireSlot", desc := "(I)V" } : Jvm.MethodName)) ∈ am_tb := am_tin 523 (by decide +kernel) rfl
theorem w_469 : (Jvm.Cond.methodLinkNest "TablePager" (327 : Nat) ({ cls := "TablePager$Slots", name := "put", desc := "(ILTablePager$Table;)V" } : Jvm.MethodName) "TablePager") ∈ am_tb := am_tin 542 (by decide +kernel) rfl
theorem w_482 : (Jvm.Cond.methodLinkNest "TablePager" (330 : Nat) ({ cls := "TablePager$Slots", name := "isFilled", desc := "(I)Z" } : Jvm.MethodName) "TablePager") ∈ am_tb := am_tin 555 (by decide +kernel) rfl
theorem w_487 : (Jvm.Cond.methodLinkNest "TablePager" (336 : Nat) ({ cls := "TablePager$Slots", name := "copyTo", desc := "(ILTablePager$Table;)V" } : Jvm.MethodName) "TablePager") ∈ am_tb := am_tin 560 (by decide +kernel) rfl
theorem w_602 : (Jvm.Cond.methodLinkNest "TablePager" (339 : Nat) ({ cls := "TablePager$Table", name := "hasRow", desc := "(I)Z" } : Jvm.MethodName) "TablePager") ∈ am_tb := am_tin 675 (by decide +kernel) rfl
theorem w_622 : (Jvm.Cond.methodLinkNest "TablePager" (347 : Nat) ({ cls := "TablePager$Table", name := "hasColumn", desc := "(I)Z" } : Jvm.MethodName) "TablePager") ∈ am_tb := am_tin 695 (by decide +kernel) rfl
theorem w_643 : (Jvm.Cond.methodLinkNest "TablePager" (352 : Nat) ({ cls := "TablePager$Table", name := "hasSpan", desc := "(I)Z" } : Jvm.MethodName) "TablePager") ∈ am_tb := am_tin 716 (by decide +kernel) rfl
theorem w_661 : (Jvm.Cond.methodLinkNest "TablePager" (357 : Nat) ({ cls := "TablePager$Layout", name := "hasPage", desc := "(I)Z" } : Jvm.MethodName) "TablePager") ∈ am_tb := am_tin 734 (by decide +kernel) rfl
theorem w_278 : (Jvm.Cond.constant "TablePagerLaw" (7 : Nat) (15593401 : Int32)) ∈ am_tb := am_tin 351 (by decide +kernel) rfl
theorem w_279 : (Jvm.Cond.constant "TablePagerLaw" (8 : Nat) (2147483647 : Int32)) ∈ am_tb := am_tin 352 (by decide +kernel) rfl
theorem w_938 : (Jvm.Cond.methodLink "TablePagerLaw" (9 : Nat) ({ cls := "TablePager", name := "append", desc := "(I)I" } : Jvm.MethodName)) ∈ am_tb := am_tin 1011 (by decide +kernel) rfl
theorem w_502 : (Jvm.Cond.classLink "TablePagerLaw" (15 : Nat) "java/lang/IllegalArgumentException") ∈ am_tb := am_tin 575 (by decide +kernel) rfl
theorem w_568 : (Jvm.Cond.castable "java/lang/IllegalArgumentException" "java/lang/IllegalArgumentException") ∈ am_tb := am_tin 641 (by decide +kernel) rfl
theorem w_582 : (Jvm.Cond.constantLong "TablePagerLaw" (17 : Nat) (-9000000000000000002 : Int64)) ∈ am_tb := am_tin 655 (by decide +kernel) rfl
theorem w_283 : (Jvm.Cond.classLink "TablePagerLaw" (19 : Nat) "java/lang/IllegalStateException") ∈ am_tb := am_tin 356 (by decide +kernel) rfl
theorem w_360 : (Jvm.Cond.castable "java/lang/IllegalStateException" "java/lang/IllegalStateException") ∈ am_tb := am_tin 433 (by decide +kernel) rfl
theorem w_441 : (Jvm.Cond.constantLong "TablePagerLaw" (21 : Nat) (-9000000000000000003 : Int64)) ∈ am_tb := am_tin 514 (by decide +kernel) rfl
theorem w_284 : (Jvm.Cond.methodLink "TablePagerLaw" (23 : Nat) ({ cls := "TablePager", name := "load", desc := "()I" } : Jvm.MethodName)) ∈ am_tb := am_tin 357 (by decide +kernel) rfl
theorem w_503 : (Jvm.Cond.methodLink "TablePagerLaw" (27 : Nat) ({ cls := "TablePager", name := "about", desc := "(I)I" } : Jvm.MethodName)) ∈ am_tb := am_tin 576 (by decide +kernel) rfl
theorem w_594 : (Jvm.Cond.methodLink "TablePagerLaw" (30 : Nat) ({ cls := "TablePager", name := "row", desc := "(II)I" } : Jvm.MethodName)) ∈ am_tb := am_tin 667 (by decide +kernel) rfl
theorem w_445 : (Jvm.Cond.classLink "TablePagerLaw" (34 : Nat) "java/lang/IndexOutOfBoundsException") ∈ am_tb := am_tin 518 (by decide +kernel) rfl
theorem w_455 : (Jvm.Cond.castable "java/lang/IndexOutOfBoundsException" "java/lang/IndexOutOfBoundsException") ∈ am_tb := am_tin 528 (by decide +kernel) rfl
theorem w_474 : (Jvm.Cond.constantLong "TablePagerLaw" (36 : Nat) (-9000000000000000001 : Int64)) ∈ am_tb := am_tin 547 (by decide +kernel) rfl
theorem w_614 : (Jvm.Cond.methodLink "TablePagerLaw" (38 : Nat) ({ cls := "TablePager", name := "amount", desc := "(II)I" } : Jvm.MethodName)) ∈ am_tb := am_tin 687 (by decide +kernel) rfl
theorem w_635 : (Jvm.Cond.methodLink "TablePagerLaw" (41 : Nat) ({ cls := "TablePager", name := "span", desc := "(II)I" } : Jvm.MethodName)) ∈ am_tb := am_tin 708 (by decide +kernel) rfl
theorem w_586 : (Jvm.Cond.methodLink "TablePagerLaw" (44 : Nat) ({ cls := "TablePager", name := "note", desc := "(I)I" } : Jvm.MethodName)) ∈ am_tb := am_tin 659 (by decide +kernel) rfl
theorem w_653 : (Jvm.Cond.methodLink "TablePagerLaw" (47 : Nat) ({ cls := "TablePager", name := "page", desc := "(II)I" } : Jvm.MethodName)) ∈ am_tb := am_tin 726 (by decide +kernel) rfl
theorem w_693 : (Jvm.Cond.methodLink "TablePagerLaw" (50 : Nat) ({ cls := "TablePager", name := "brought", desc := "(II)I" } : Jvm.MethodName)) ∈ am_tb := am_tin 766 (by decide +kernel) rfl
theorem w_705 : (Jvm.Cond.methodLink "TablePagerLaw" (53 : Nat) ({ cls := "TablePager", name := "carried", desc := "(II)I" } : Jvm.MethodName)) ∈ am_tb := am_tin 778 (by decide +kernel) rfl
theorem w_712 : (Jvm.Cond.methodLink "TablePagerLaw" (56 : Nat) ({ cls := "TablePager", name := "richest", desc := "(I)I" } : Jvm.MethodName)) ∈ am_tb := am_tin 785 (by decide +kernel) rfl
theorem w_719 : (Jvm.Cond.methodLink "TablePagerLaw" (59 : Nat) ({ cls := "TablePager", name := "addRow", desc := "(II)I" } : Jvm.MethodName)) ∈ am_tb := am_tin 792 (by decide +kernel) rfl
theorem w_739 : (Jvm.Cond.methodLink "TablePagerLaw" (62 : Nat) ({ cls := "TablePager", name := "setAmount", desc := "(III)I" } : Jvm.MethodName)) ∈ am_tb := am_tin 812 (by decide +kernel) rfl
theorem w_759 : (Jvm.Cond.methodLink "TablePagerLaw" (66 : Nat) ({ cls := "TablePager", name := "keep", desc := "(IZ)I" } : Jvm.MethodName)) ∈ am_tb := am_tin 832 (by decide +kernel) rfl
theorem w_766 : (Jvm.Cond.methodLink "TablePagerLaw" (70 : Nat) ({ cls := "TablePager", name := "removeRow", desc := "(I)I" } : Jvm.MethodName)) ∈ am_tb := am_tin 839 (by decide +kernel) rfl
theorem w_748 : (Jvm.Cond.methodLink "TablePagerLaw" (73 : Nat) ({ cls := "TablePager", name := "addSpan", desc := "(IIZ)I" } : Jvm.MethodName)) ∈ am_tb := am_tin 821 (by decide +kernel) rfl
theorem w_782 : (Jvm.Cond.methodLink "TablePagerLaw" (77 : Nat) ({ cls := "TablePager", name := "removeSpan", desc := "(I)I" } : Jvm.MethodName)) ∈ am_tb := am_tin 855 (by decide +kernel) rfl
theorem w_793 : (Jvm.Cond.methodLink "TablePagerLaw" (80 : Nat) ({ cls := "TablePager", name := "setHeight", desc := "(II)I" } : Jvm.MethodName)) ∈ am_tb := am_tin 866 (by decide +kernel) rfl
theorem w_968 : (Jvm.Cond.methodLink "TablePagerLaw" (83 : Nat) ({ cls := "TablePager", name := "undo", desc := "()I" } : Jvm.MethodName)) ∈ am_tb := am_tin 1041 (by decide +kernel) rfl
theorem w_808 : (Jvm.Cond.methodLink "TablePagerLaw" (86 : Nat) ({ cls := "TablePager", name := "heightFor", desc := "(I)I" } : Jvm.MethodName)) ∈ am_tb := am_tin 881 (by decide +kernel) rfl
theorem w_816 : (Jvm.Cond.methodLink "TablePagerLaw" (89 : Nat) ({ cls := "TablePager", name := "evenCut", desc := "(I)I" } : Jvm.MethodName)) ∈ am_tb := am_tin 889 (by decide +kernel) rfl
theorem w_845 : (Jvm.Cond.methodLink "TablePagerLaw" (92 : Nat) ({ cls := "TablePager", name := "emptyFrom", desc := "(I)I" } : Jvm.MethodName)) ∈ am_tb := am_tin 918 (by decide +kernel) rfl
theorem w_856 : (Jvm.Cond.methodLink "TablePagerLaw" (95 : Nat) ({ cls := "TablePager", name := "runScript", desc := "(IJ)I" } : Jvm.MethodName)) ∈ am_tb := am_tin 929 (by decide +kernel) rfl
theorem w_920 : (Jvm.Cond.methodLink "TablePagerLaw" (99 : Nat) ({ cls := "TablePager", name := "simulate", desc := "(JI)I" } : Jvm.MethodName)) ∈ am_tb := am_tin 993 (by decide +kernel) rfl
theorem w_446 : (Jvm.Cond.methodLink "TablePagerLaw" (103 : Nat) ({ cls := "TablePager", name := "save", desc := "(I)I" } : Jvm.MethodName)) ∈ am_tb := am_tin 519 (by decide +kernel) rfl
theorem w_478 : (Jvm.Cond.methodLink "TablePagerLaw" (106 : Nat) ({ cls := "TablePager", name := "restore", desc := "(I)I" } : Jvm.MethodName)) ∈ am_tb := am_tin 551 (by decide +kernel) rfl
theorem w_981 : (Jvm.Cond.methodLink "TablePagerLaw" (198 : Nat) ({ cls := "TablePager", name := "evenest", desc := "()I" } : Jvm.MethodName)) ∈ am_tb := am_tin 1054 (by decide +kernel) rfl
theorem w_935 : (Jvm.Cond.methodLink "TablePagerLaw" (177 : Nat) ({ cls := "TablePagerLaw", name := "append", desc := "(LTablePager;I)J" } : Jvm.MethodName)) ∈ am_tb := am_tin 1008 (by decide +kernel) rfl
theorem w_497 : (Jvm.Cond.constantLong "TablePagerLaw" (109 : Nat) (47 : Int64)) ∈ am_tb := am_tin 570 (by decide +kernel) rfl
theorem w_498 : (Jvm.Cond.constantLong "TablePagerLaw" (111 : Nat) (31 : Int64)) ∈ am_tb := am_tin 571 (by decide +kernel) rfl
theorem w_499 : (Jvm.Cond.methodLink "TablePagerLaw" (113 : Nat) ({ cls := "TablePagerLaw", name := "about", desc := "(LTablePager;I)J" } : Jvm.MethodName)) ∈ am_tb := am_tin 572 (by decide +kernel) rfl
theorem w_583 : (Jvm.Cond.methodLink "TablePagerLaw" (118 : Nat) ({ cls := "TablePagerLaw", name := "note", desc := "(LTablePager;I)J" } : Jvm.MethodName)) ∈ am_tb := am_tin 656 (by decide +kernel) rfl
theorem w_591 : (Jvm.Cond.methodLink "TablePagerLaw" (120 : Nat) ({ cls := "TablePagerLaw", name := "row", desc := "(LTablePager;II)J" } : Jvm.MethodName)) ∈ am_tb := am_tin 664 (by decide +kernel) rfl
theorem w_611 : (Jvm.Cond.methodLink "TablePagerLaw" (123 : Nat) ({ cls := "TablePagerLaw", name := "amount", desc := "(LTablePager;II)J" } : Jvm.MethodName)) ∈ am_tb := am_tin 684 (by decide +kernel) rfl
theorem w_631 : (Jvm.Cond.constantLong "TablePagerLaw" (125 : Nat) (4 : Int64)) ∈ am_tb := am_tin 704 (by decide +kernel) rfl
theorem w_632 : (Jvm.Cond.methodLink "TablePagerLaw" (127 : Nat) ({ cls := "TablePagerLaw", name := "span", desc := "(LTablePager;II)J" } : Jvm.MethodName)) ∈ am_tb := am_tin 705 (by decide +kernel) rfl
theorem w_494 : (Jvm.Cond.methodLink "TablePagerLaw" (129 : Nat) ({ cls := "TablePagerLaw", name := "now", desc := "(LTablePager;)J" } : Jvm.MethodName)) ∈ am_tb := am_tin 567 (by decide +kernel) rfl
theorem w_988 : (Jvm.Cond.methodLink "TablePagerLaw" (201 : Nat) ({ cls := "TablePager", name := "errorPosition", desc := "()I" } : Jvm.MethodName)) ∈ am_tb := am_tin 1061 (by decide +kernel) rfl
theorem w_813 : (Jvm.Cond.methodLink "TablePagerLaw" (160 : Nat) ({ cls := "TablePagerLaw", name := "evenCut", desc := "(LTablePager;I)J" } : Jvm.MethodName)) ∈ am_tb := am_tin 886 (by decide +kernel) rfl
theorem w_805 : (Jvm.Cond.methodLink "TablePagerLaw" (158 : Nat) ({ cls := "TablePagerLaw", name := "heightFor", desc := "(LTablePager;I)J" } : Jvm.MethodName)) ∈ am_tb := am_tin 878 (by decide +kernel) rfl
theorem w_842 : (Jvm.Cond.methodLink "TablePagerLaw" (162 : Nat) ({ cls := "TablePagerLaw", name := "emptyFrom", desc := "(LTablePager;I)J" } : Jvm.MethodName)) ∈ am_tb := am_tin 915 (by decide +kernel) rfl
theorem w_709 : (Jvm.Cond.methodLink "TablePagerLaw" (139 : Nat) ({ cls := "TablePagerLaw", name := "richest", desc := "(LTablePager;I)J" } : Jvm.MethodName)) ∈ am_tb := am_tin 782 (by decide +kernel) rfl
theorem w_650 : (Jvm.Cond.methodLink "TablePagerLaw" (133 : Nat) ({ cls := "TablePagerLaw", name := "page", desc := "(LTablePager;II)J" } : Jvm.MethodName)) ∈ am_tb := am_tin 723 (by decide +kernel) rfl
theorem w_702 : (Jvm.Cond.methodLink "TablePagerLaw" (137 : Nat) ({ cls := "TablePagerLaw", name := "carried", desc := "(LTablePager;II)J" } : Jvm.MethodName)) ∈ am_tb := am_tin 775 (by decide +kernel) rfl
theorem w_917 : (Jvm.Cond.methodLink "TablePagerLaw" (170 : Nat) ({ cls := "TablePagerLaw", name := "simulate", desc := "(LTablePager;JI)J" } : Jvm.MethodName)) ∈ am_tb := am_tin 990 (by decide +kernel) rfl
theorem w_992 : (Jvm.Cond.constantLong "TablePagerLaw" (204 : Nat) (123005020060000 : Int64)) ∈ am_tb := am_tin 1065 (by decide +kernel) rfl
theorem w_853 : (Jvm.Cond.methodLink "TablePagerLaw" (164 : Nat) ({ cls := "TablePagerLaw", name := "script", desc := "(LTablePager;IJ)J" } : Jvm.MethodName)) ∈ am_tb := am_tin 926 (by decide +kernel) rfl
theorem w_996 : (Jvm.Cond.methodLink "TablePagerLaw" (206 : Nat) ({ cls := "TablePager", name := "clearText", desc := "()I" } : Jvm.MethodName)) ∈ am_tb := am_tin 1069 (by decide +kernel) rfl
theorem w_1000 : (Jvm.Cond.methodLink "TablePagerLaw" (209 : Nat) ({ cls := "TablePagerLaw", name := "says", desc := "(LTablePager;I)Z" } : Jvm.MethodName)) ∈ am_tb := am_tin 1073 (by decide +kernel) rfl
theorem w_1003 : (Jvm.Cond.constant "TablePagerLaw" (213 : Nat) (-999999 : Int32)) ∈ am_tb := am_tin 1076 (by decide +kernel) rfl
theorem w_716 : (Jvm.Cond.methodLink "TablePagerLaw" (141 : Nat) ({ cls := "TablePagerLaw", name := "addRow", desc := "(LTablePager;II)J" } : Jvm.MethodName)) ∈ am_tb := am_tin 789 (by decide +kernel) rfl
theorem w_736 : (Jvm.Cond.methodLink "TablePagerLaw" (143 : Nat) ({ cls := "TablePagerLaw", name := "setAmount", desc := "(LTablePager;III)J" } : Jvm.MethodName)) ∈ am_tb := am_tin 809 (by decide +kernel) rfl
theorem w_756 : (Jvm.Cond.methodLink "TablePagerLaw" (149 : Nat) ({ cls := "TablePagerLaw", name := "keep", desc := "(LTablePager;IZ)J" } : Jvm.MethodName)) ∈ am_tb := am_tin 829 (by decide +kernel) rfl
theorem w_763 : (Jvm.Cond.methodLink "TablePagerLaw" (152 : Nat) ({ cls := "TablePagerLaw", name := "removeRow", desc := "(LTablePager;I)J" } : Jvm.MethodName)) ∈ am_tb := am_tin 836 (by decide +kernel) rfl
theorem w_745 : (Jvm.Cond.methodLink "TablePagerLaw" (146 : Nat) ({ cls := "TablePagerLaw", name := "addSpan", desc := "(LTablePager;IIZ)J" } : Jvm.MethodName)) ∈ am_tb := am_tin 818 (by decide +kernel) rfl
theorem w_779 : (Jvm.Cond.methodLink "TablePagerLaw" (154 : Nat) ({ cls := "TablePagerLaw", name := "removeSpan", desc := "(LTablePager;I)J" } : Jvm.MethodName)) ∈ am_tb := am_tin 852 (by decide +kernel) rfl
theorem w_965 : (Jvm.Cond.methodLink "TablePagerLaw" (191 : Nat) ({ cls := "TablePagerLaw", name := "undo", desc := "(LTablePager;)J" } : Jvm.MethodName)) ∈ am_tb := am_tin 1038 (by decide +kernel) rfl
theorem w_442 : (Jvm.Cond.methodLink "TablePagerLaw" (173 : Nat) ({ cls := "TablePagerLaw", name := "save", desc := "(LTablePager;I)J" } : Jvm.MethodName)) ∈ am_tb := am_tin 515 (by decide +kernel) rfl
theorem w_475 : (Jvm.Cond.methodLink "TablePagerLaw" (175 : Nat) ({ cls := "TablePagerLaw", name := "restore", desc := "(LTablePager;I)J" } : Jvm.MethodName)) ∈ am_tb := am_tin 548 (by decide +kernel) rfl
theorem w_790 : (Jvm.Cond.methodLink "TablePagerLaw" (156 : Nat) ({ cls := "TablePagerLaw", name := "setHeight", desc := "(LTablePager;II)J" } : Jvm.MethodName)) ∈ am_tb := am_tin 863 (by decide +kernel) rfl
theorem w_690 : (Jvm.Cond.methodLink "TablePagerLaw" (135 : Nat) ({ cls := "TablePagerLaw", name := "brought", desc := "(LTablePager;II)J" } : Jvm.MethodName)) ∈ am_tb := am_tin 763 (by decide +kernel) rfl
theorem w_916 : (Jvm.Cond.constantLong "TablePagerLaw" (168 : Nat) (1000000000000000 : Int64)) ∈ am_tb := am_tin 989 (by decide +kernel) rfl
theorem w_955 : (Jvm.Cond.methodLink "TablePagerLaw" (179 : Nat) ({ cls := "TablePagerLaw", name := "in", desc := "(JJJ)Z" } : Jvm.MethodName)) ∈ am_tb := am_tin 1028 (by decide +kernel) rfl
theorem w_958 : (Jvm.Cond.constantLong "TablePagerLaw" (183 : Nat) (24 : Int64)) ∈ am_tb := am_tin 1031 (by decide +kernel) rfl
theorem w_959 : (Jvm.Cond.constantLong "TablePagerLaw" (185 : Nat) (-999999 : Int64)) ∈ am_tb := am_tin 1032 (by decide +kernel) rfl
theorem w_963 : (Jvm.Cond.constantLong "TablePagerLaw" (187 : Nat) (6 : Int64)) ∈ am_tb := am_tin 1036 (by decide +kernel) rfl
theorem w_964 : (Jvm.Cond.constantLong "TablePagerLaw" (189 : Nat) (40 : Int64)) ∈ am_tb := am_tin 1037 (by decide +kernel) rfl
theorem w_977 : (Jvm.Cond.constantLong "TablePagerLaw" (193 : Nat) (-1000 : Int64)) ∈ am_tb := am_tin 1050 (by decide +kernel) rfl
theorem w_978 : (Jvm.Cond.methodLink "TablePagerLaw" (195 : Nat) ({ cls := "TablePagerLaw", name := "o", desc := "(LTablePager;)J" } : Jvm.MethodName)) ∈ am_tb := am_tin 1051 (by decide +kernel) rfl
theorem w_18 : (Jvm.Cond.classLink "TablePagerLaw" (10 : Nat) "TablePager") ∈ am_tb := am_tin 91 (by decide +kernel) rfl
theorem w_20 : (Jvm.Cond.methodLink "TablePagerLaw" (214 : Nat) ({ cls := "TablePager", name := "<init>", desc := "()V" } : Jvm.MethodName)) ∈ am_tb := am_tin 93 (by decide +kernel) rfl
theorem w_275 : (Jvm.Cond.methodLink "TablePagerLaw" (215 : Nat) ({ cls := "TablePagerLaw", name := "draw", desc := "([II)I" } : Jvm.MethodName)) ∈ am_tb := am_tin 348 (by decide +kernel) rfl
theorem w_985 : (Jvm.Cond.methodLink "TablePagerLaw" (219 : Nat) ({ cls := "TablePagerLaw", name := "alike", desc := "(LTablePager;LTablePager;I)Z" } : Jvm.MethodName)) ∈ am_tb := am_tin 1058 (by decide +kernel) rfl
theorem w_491 : (Jvm.Cond.methodLink "TablePagerLaw" (223 : Nat) ({ cls := "TablePagerLaw", name := "errors", desc := "(LTablePager;)Z" } : Jvm.MethodName)) ∈ am_tb := am_tin 564 (by decide +kernel) rfl
theorem w_952 : (Jvm.Cond.methodLink "TablePagerLaw" (227 : Nat) ({ cls := "TablePagerLaw", name := "kept", desc := "(LTablePager;)Z" } : Jvm.MethodName)) ∈ am_tb := am_tin 1025 (by decide +kernel) rfl
theorem w_993 : (Jvm.Cond.methodLink "TablePagerLaw" (230 : Nat) ({ cls := "TablePagerLaw", name := "tells", desc := "(LTablePager;II)Z" } : Jvm.MethodName)) ∈ am_tb := am_tin 1066 (by decide +kernel) rfl
theorem w_280 : (Jvm.Cond.methodLink "TablePagerLaw" (234 : Nat) ({ cls := "TablePagerLaw", name := "load", desc := "(LTablePager;)J" } : Jvm.MethodName)) ∈ am_tb := am_tin 353 (by decide +kernel) rfl
theorem w_1004 : (Jvm.Cond.methodLink "TablePagerLaw" (236 : Nat) ({ cls := "TablePagerLaw", name := "act", desc := "(LTablePager;II)J" } : Jvm.MethodName)) ∈ am_tb := am_tin 1077 (by decide +kernel) rfl
theorem w_960 : (Jvm.Cond.methodLink "TablePagerLaw" (239 : Nat) ({ cls := "TablePagerLaw", name := "follows", desc := "(LTablePager;I)Z" } : Jvm.MethodName)) ∈ am_tb := am_tin 1033 (by decide +kernel) rfl
theorem w_1007 : (Jvm.Cond.constant "TablePagerLaw" (242 : Nat) (83003 : Int32)) ∈ am_tb := am_tin 1080 (by decide +kernel) rfl
theorem w_566 : (Jvm.Cond.classLink "TablePager" (61 : Nat) "java/lang/IllegalArgumentException") ∈ am_tb := am_tin 639 (by decide +kernel) rfl
theorem w_13 : (Jvm.Cond.initialized "java/lang/IllegalArgumentException") ∈ am_tb := am_tin 86 (by decide +kernel) rfl
theorem w_358 : (Jvm.Cond.classLink "TablePager" (72 : Nat) "java/lang/IllegalStateException") ∈ am_tb := am_tin 431 (by decide +kernel) rfl
theorem w_17 : (Jvm.Cond.initialized "java/lang/IllegalStateException") ∈ am_tb := am_tin 90 (by decide +kernel) rfl
theorem w_453 : (Jvm.Cond.classLink "TablePager" (342 : Nat) "java/lang/IndexOutOfBoundsException") ∈ am_tb := am_tin 526 (by decide +kernel) rfl
theorem w_14 : (Jvm.Cond.initialized "java/lang/IndexOutOfBoundsException") ∈ am_tb := am_tin 87 (by decide +kernel) rfl
theorem fl_Table_9 : am_flo "TablePager$Table" 9 7 5 := Or.inl w_77
theorem fl_Table_15 : am_flo "TablePager$Table" 15 7 6 := Or.inl w_80
theorem fl_Table_18 : am_flo "TablePager$Table" 18 7 7 := Or.inl w_84
theorem fl_Table_22 : am_flo "TablePager$Table" 22 7 8 := Or.inl w_88
theorem fl_Table_25 : am_flo "TablePager$Table" 25 7 9 := Or.inl w_89
theorem fl_Table_28 : am_flo "TablePager$Table" 28 7 10 := Or.inl w_93
theorem fl_Table_31 : am_flo "TablePager$Table" 31 7 11 := Or.inl w_97
theorem fl_Table_34 : am_flo "TablePager$Table" 34 7 12 := Or.inl w_99
theorem fl_Table_40 : am_flo "TablePager$Table" 40 7 0 := Or.inl w_54
theorem fl_Table_44 : am_flo "TablePager$Table" 44 7 1 := Or.inl w_57
theorem fl_Table_47 : am_flo "TablePager$Table" 47 7 2 := Or.inl w_64
theorem fl_Table_50 : am_flo "TablePager$Table" 50 7 3 := Or.inl w_67
theorem fl_Table_53 : am_flo "TablePager$Table" 53 7 4 := Or.inl w_73
theorem fl_Command_7 : am_flo "TablePager$Command" 7 1 0 := Or.inl w_234
theorem fl_Command_13 : am_flo "TablePager$Command" 13 1 1 := Or.inl w_235
theorem fl_Command_16 : am_flo "TablePager$Command" 16 1 2 := Or.inl w_236
theorem fl_Command_19 : am_flo "TablePager$Command" 19 1 3 := Or.inl w_237
theorem fl_Command_22 : am_flo "TablePager$Command" 22 1 4 := Or.inl w_238
theorem fl_Command_45 : am_flo "TablePager$Command" 45 7 3 := Or.inr ⟨_, w_69⟩
theorem fl_Command_56 : am_flo "TablePager$Command" 56 4 0 := Or.inr ⟨_, w_194⟩
theorem fl_Command_78 : am_flo "TablePager$Command" 78 4 1 := Or.inr ⟨_, w_197⟩
theorem fl_Command_103 : am_flo "TablePager$Command" 103 7 7 := Or.inr ⟨_, w_87⟩
theorem fl_Evener_9 : am_flo "TablePager$Evener" 9 2 0 := Or.inl w_218
theorem fl_Evener_15 : am_flo "TablePager$Evener" 15 2 1 := Or.inl w_219
theorem fl_Evener_21 : am_flo "TablePager$Evener" 21 2 2 := Or.inl w_220
theorem fl_Evener_31 : am_flo "TablePager$Evener" 31 7 1 := Or.inr ⟨_, w_58⟩
theorem fl_Evener_54 : am_flo "TablePager$Evener" 54 7 3 := Or.inr ⟨_, w_68⟩
theorem fl_History_11 : am_flo "TablePager$History" 11 3 0 := Or.inl w_141
theorem fl_History_18 : am_flo "TablePager$History" 18 3 2 := Or.inl w_143
theorem fl_History_22 : am_flo "TablePager$History" 22 3 1 := Or.inl w_142
theorem fl_Layout_9 : am_flo "TablePager$Layout" 9 4 2 := Or.inl w_199
theorem fl_Layout_18 : am_flo "TablePager$Layout" 18 4 3 := Or.inl w_200
theorem fl_Layout_28 : am_flo "TablePager$Layout" 28 4 0 := Or.inl w_193
theorem fl_Layout_32 : am_flo "TablePager$Layout" 32 4 1 := Or.inl w_196
theorem fl_Layout_35 : am_flo "TablePager$Layout" 35 7 1 := Or.inr ⟨_, w_59⟩
theorem fl_Layout_61 : am_flo "TablePager$Layout" 61 7 10 := Or.inr ⟨_, w_95⟩
theorem fl_Layout_68 : am_flo "TablePager$Layout" 68 7 9 := Or.inr ⟨_, w_91⟩
theorem fl_Layout_71 : am_flo "TablePager$Layout" 71 7 2 := Or.inr ⟨_, w_66⟩
theorem fl_Layout_88 : am_flo "TablePager$Layout" 88 7 3 := Or.inr ⟨_, w_72⟩
theorem fl_Sheet_7 : am_flo "TablePager$Sheet" 7 5 0 := Or.inl w_179
theorem fl_Sheet_13 : am_flo "TablePager$Sheet" 13 7 2 := Or.inr ⟨_, w_63⟩
theorem fl_Sheet_18 : am_flo "TablePager$Sheet" 18 7 9 := Or.inr ⟨_, w_90⟩
theorem fl_Sheet_22 : am_flo "TablePager$Sheet" 22 7 10 := Or.inr ⟨_, w_94⟩
theorem fl_Sheet_25 : am_flo "TablePager$Sheet" 25 5 1 := Or.inl w_181
theorem fl_Sheet_28 : am_flo "TablePager$Sheet" 28 7 4 := Or.inr ⟨_, w_74⟩
theorem fl_Sheet_31 : am_flo "TablePager$Sheet" 31 5 2 := Or.inl w_182
theorem fl_Sheet_34 : am_flo "TablePager$Sheet" 34 5 3 := Or.inl w_183
theorem fl_Sheet_37 : am_flo "TablePager$Sheet" 37 7 5 := Or.inr ⟨_, w_78⟩
theorem fl_Sheet_40 : am_flo "TablePager$Sheet" 40 7 6 := Or.inr ⟨_, w_81⟩
theorem fl_Sheet_48 : am_flo "TablePager$Sheet" 48 7 12 := Or.inr ⟨_, w_100⟩
theorem fl_Sheet_51 : am_flo "TablePager$Sheet" 51 7 1 := Or.inr ⟨_, w_60⟩
theorem fl_Slots_11 : am_flo "TablePager$Slots" 11 6 0 := Or.inl w_160
theorem fl_Slots_17 : am_flo "TablePager$Slots" 17 6 1 := Or.inl w_161
theorem fl_Text_9 : am_flo "TablePager$Text" 9 8 0 := Or.inl w_32
theorem fl_Text_15 : am_flo "TablePager$Text" 15 8 1 := Or.inl w_33
theorem fl_Text_19 : am_flo "TablePager$Text" 19 8 2 := Or.inl w_35
theorem fl_Text_46 : am_flo "TablePager$Text" 46 7 0 := Or.inr ⟨_, w_55⟩
theorem fl_Text_49 : am_flo "TablePager$Text" 49 7 3 := Or.inr ⟨_, w_70⟩
theorem fl_Text_52 : am_flo "TablePager$Text" 52 7 4 := Or.inr ⟨_, w_75⟩
theorem fl_Text_62 : am_flo "TablePager$Text" 62 7 1 := Or.inr ⟨_, w_62⟩
theorem fl_Text_65 : am_flo "TablePager$Text" 65 7 7 := Or.inr ⟨_, w_85⟩
theorem fl_Text_89 : am_flo "TablePager$Text" 89 7 6 := Or.inr ⟨_, w_83⟩
theorem fl_Text_93 : am_flo "TablePager$Text" 93 7 12 := Or.inr ⟨_, w_101⟩
theorem fl_P_10 : am_flo "TablePager" 10 0 0 := Or.inl w_250
theorem fl_P_19 : am_flo "TablePager" 19 0 1 := Or.inl w_251
theorem fl_P_26 : am_flo "TablePager" 26 0 2 := Or.inl w_252
theorem fl_P_33 : am_flo "TablePager" 33 0 3 := Or.inl w_253
theorem fl_P_40 : am_flo "TablePager" 40 0 4 := Or.inl w_254
theorem fl_P_47 : am_flo "TablePager" 47 0 5 := Or.inl w_255
theorem fl_P_54 : am_flo "TablePager" 54 0 6 := Or.inl w_256
theorem fl_P_58 : am_flo "TablePager" 58 0 7 := Or.inl w_257
theorem fl_P_81 : am_flo "TablePager" 81 8 1 := Or.inr ⟨_, w_34⟩
theorem fl_P_102 : am_flo "TablePager" 102 7 1 := Or.inr ⟨_, w_61⟩
theorem fl_P_105 : am_flo "TablePager" 105 7 0 := Or.inr ⟨_, w_56⟩
theorem fl_P_108 : am_flo "TablePager" 108 7 2 := Or.inr ⟨_, w_65⟩
theorem fl_P_111 : am_flo "TablePager" 111 7 3 := Or.inr ⟨_, w_71⟩
theorem fl_P_114 : am_flo "TablePager" 114 7 4 := Or.inr ⟨_, w_76⟩
theorem fl_P_124 : am_flo "TablePager" 124 4 1 := Or.inr ⟨_, w_198⟩
theorem fl_P_136 : am_flo "TablePager" 136 7 5 := Or.inr ⟨_, w_79⟩
theorem fl_P_140 : am_flo "TablePager" 140 7 6 := Or.inr ⟨_, w_82⟩
theorem fl_P_143 : am_flo "TablePager" 143 7 7 := Or.inr ⟨_, w_86⟩
theorem fl_P_170 : am_flo "TablePager" 170 7 9 := Or.inr ⟨_, w_92⟩
theorem fl_P_173 : am_flo "TablePager" 173 7 10 := Or.inr ⟨_, w_96⟩
theorem fl_P_176 : am_flo "TablePager" 176 7 11 := Or.inr ⟨_, w_98⟩
theorem fl_P_187 : am_flo "TablePager" 187 7 12 := Or.inr ⟨_, w_102⟩
theorem fl_P_208 : am_flo "TablePager" 208 5 0 := Or.inr ⟨_, w_180⟩
theorem fl_P_220 : am_flo "TablePager" 220 4 0 := Or.inr ⟨_, w_195⟩
theorem fl_P_269 : am_flo "TablePager" 269 3 2 := Or.inr ⟨_, w_144⟩
theorem ml_Table_37 : am_mlo "TablePager$Table" 37 y_Table_makeNew := Or.inl w_50
theorem ml_Table_62 : am_mlo "TablePager$Table" 62 y_Table_amountAt := Or.inl w_701
theorem ml_Table_66 : am_mlo "TablePager$Table" 66 y_Table_putAmount := Or.inl w_331
theorem ml_Table_70 : am_mlo "TablePager$Table" 70 y_Table_takeRowFromSpans := Or.inl w_774
theorem ml_Table_74 : am_mlo "TablePager$Table" 74 y_Table_putSpan := Or.inl w_778
theorem ml_Table_78 : am_mlo "TablePager$Table" 78 y_Table_upTo := Or.inl w_527
theorem ml_Table_81 : am_mlo "TablePager$Table" 81 y_Table_cutRows := Or.inl w_523
theorem ml_Table_85 : am_mlo "TablePager$Table" 85 y_Table_isFull := Or.inl w_931
theorem ml_Table_89 : am_mlo "TablePager$Table" 89 y_Table_putRow := Or.inl w_932
theorem ml_Table_93 : am_mlo "TablePager$Table" 93 y_Table_dropRow := Or.inl w_933
theorem ml_Command_25 : am_mlo "TablePager$Command" 25 y_Command_addsRow := Or.inl w_874
theorem ml_Command_29 : am_mlo "TablePager$Command" 29 y_Command_putsAmount := Or.inl w_881
theorem ml_Command_32 : am_mlo "TablePager$Command" 32 y_Command_marksRow := Or.inl w_892
theorem ml_Command_35 : am_mlo "TablePager$Command" 35 y_Command_dropsRow := Or.inl w_896
theorem ml_Command_38 : am_mlo "TablePager$Command" 38 y_Command_putsHeight := Or.inl w_901
theorem ml_Command_41 : am_mlo "TablePager$Command" 41 y_Command_holds := Or.inl w_907
theorem ml_Command_50 : am_mlo "TablePager$Command" 50 y_Layout_lay := Or.inr ⟨_, w_911⟩
theorem ml_Command_59 : am_mlo "TablePager$Command" 59 y_Command_firstPair := Or.inl w_885
theorem ml_Command_63 : am_mlo "TablePager$Command" 63 y_Layout_hasPage := Or.inr ⟨_, w_912⟩
theorem ml_Command_67 : am_mlo "TablePager$Command" 67 y_Layout_lastOf := Or.inr ⟨_, w_913⟩
theorem ml_Command_71 : am_mlo "TablePager$Command" 71 y_Table_hasSpan := Or.inr ⟨_, w_914⟩
theorem ml_Command_74 : am_mlo "TablePager$Command" 74 y_Layout_pagesOfSpan := Or.inr ⟨_, w_915⟩
theorem ml_Command_81 : am_mlo "TablePager$Command" 81 y_Table_allowsRow := Or.inr ⟨_, w_878⟩
theorem ml_Command_85 : am_mlo "TablePager$Command" 85 y_Table_isFull := Or.inr ⟨_, w_879⟩
theorem ml_Command_89 : am_mlo "TablePager$Command" 89 y_Table_putRow := Or.inr ⟨_, w_880⟩
theorem ml_Command_93 : am_mlo "TablePager$Command" 93 y_Table_hasRow := Or.inr ⟨_, w_889⟩
theorem ml_Command_96 : am_mlo "TablePager$Command" 96 y_Table_hasColumn := Or.inr ⟨_, w_890⟩
theorem ml_Command_99 : am_mlo "TablePager$Command" 99 y_Table_putAmount := Or.inr ⟨_, w_891⟩
theorem ml_Command_107 : am_mlo "TablePager$Command" 107 y_Table_dropRow := Or.inr ⟨_, w_900⟩
theorem ml_Command_110 : am_mlo "TablePager$Command" 110 y_Table_allowsHeight := Or.inr ⟨_, w_905⟩
theorem ml_Command_113 : am_mlo "TablePager$Command" 113 y_Table_putHeight := Or.inr ⟨_, w_906⟩
theorem ml_Evener_20 : am_mlo "TablePager$Evener" 20 y_Sheet_init := Or.inr ⟨_, w_217⟩
theorem ml_Evener_25 : am_mlo "TablePager$Evener" 25 y_Table_endRows := Or.inr ⟨_, w_824⟩
theorem ml_Evener_35 : am_mlo "TablePager$Evener" 35 y_Evener_chooseEnd := Or.inl w_825
theorem ml_Evener_39 : am_mlo "TablePager$Evener" 39 y_Sheet_begin := Or.inr ⟨_, w_829⟩
theorem ml_Evener_43 : am_mlo "TablePager$Evener" 43 y_Sheet_take := Or.inr ⟨_, w_830⟩
theorem ml_Evener_46 : am_mlo "TablePager$Evener" 46 y_P_isIn := Or.inr ⟨_, w_831⟩
theorem ml_Evener_50 : am_mlo "TablePager$Evener" 50 y_Evener_costOfSheet := Or.inl w_832
theorem ml_Evener_57 : am_mlo "TablePager$Evener" 57 y_Sheet_needed := Or.inr ⟨_, w_836⟩
theorem ml_History_17 : am_mlo "TablePager$History" 17 y_Table_init := Or.inr ⟨_, w_140⟩
theorem ml_History_25 : am_mlo "TablePager$History" 25 y_Table_copyFrom := Or.inr ⟨_, w_733⟩
theorem ml_Layout_17 : am_mlo "TablePager$Layout" 17 y_Sheet_init := Or.inr ⟨_, w_175⟩
theorem ml_Layout_22 : am_mlo "TablePager$Layout" 22 y_Table_endRows := Or.inr ⟨_, w_519⟩
theorem ml_Layout_38 : am_mlo "TablePager$Layout" 38 y_Layout_lastThatFits := Or.inl w_530
theorem ml_Layout_43 : am_mlo "TablePager$Layout" 43 y_Layout_firstEnd := Or.inl w_551
theorem ml_Layout_47 : am_mlo "TablePager$Layout" 47 y_Sheet_begin := Or.inr ⟨_, w_535⟩
theorem ml_Layout_51 : am_mlo "TablePager$Layout" 51 y_Sheet_take := Or.inr ⟨_, w_539⟩
theorem ml_Layout_54 : am_mlo "TablePager$Layout" 54 y_Sheet_needed := Or.inr ⟨_, w_546⟩
theorem ml_Layout_57 : am_mlo "TablePager$Layout" 57 y_P_isIn := Or.inr ⟨_, w_550⟩
theorem ml_Layout_64 : am_mlo "TablePager$Layout" 64 y_Layout_pageOf := Or.inl w_562
theorem ml_Layout_74 : am_mlo "TablePager$Layout" 74 y_Layout_pagesOfSpan := Or.inl w_558
theorem ml_Layout_78 : am_mlo "TablePager$Layout" 78 y_Layout_firstOf := Or.inl w_670
theorem ml_Layout_81 : am_mlo "TablePager$Layout" 81 y_Layout_lastOf := Or.inl w_674
theorem ml_Layout_84 : am_mlo "TablePager$Layout" 84 y_Layout_fill := Or.inl w_678
theorem ml_Sheet_42 : am_mlo "TablePager$Sheet" 42 y_P_isIn := Or.inr ⟨_, w_543⟩
theorem ml_Slots_21 : am_mlo "TablePager$Slots" 21 y_Table_init := Or.inr ⟨_, w_159⟩
theorem ml_Slots_22 : am_mlo "TablePager$Slots" 22 y_Table_copyFrom := Or.inr ⟨_, w_473⟩
theorem ml_Text_22 : am_mlo "TablePager$Text" 22 y_Table_makeNew := Or.inr ⟨_, w_292⟩
theorem ml_Text_27 : am_mlo "TablePager$Text" 27 y_Text_readHead := Or.inl w_293
theorem ml_Text_31 : am_mlo "TablePager$Text" 31 y_Text_readPart := Or.inl w_315
theorem ml_Text_35 : am_mlo "TablePager$Text" 35 y_Text_takeSign := Or.inl w_297
theorem ml_Text_39 : am_mlo "TablePager$Text" 39 y_Text_takeDigit := Or.inl w_301
theorem ml_Text_43 : am_mlo "TablePager$Text" 43 y_Text_takePair := Or.inl w_305
theorem ml_Text_55 : am_mlo "TablePager$Text" 55 y_Table_isFull := Or.inr ⟨_, w_319⟩
theorem ml_Text_59 : am_mlo "TablePager$Text" 59 y_Text_readRow := Or.inl w_323
theorem ml_Text_69 : am_mlo "TablePager$Text" 69 y_Text_readNote := Or.inl w_336
theorem ml_Text_72 : am_mlo "TablePager$Text" 72 y_Text_readNoteHeight := Or.inl w_340
theorem ml_Text_75 : am_mlo "TablePager$Text" 75 y_Table_hasAllSpans := Or.inr ⟨_, w_344⟩
theorem ml_Text_78 : am_mlo "TablePager$Text" 78 y_Text_readSpan := Or.inl w_348
theorem ml_Text_81 : am_mlo "TablePager$Text" 81 y_Table_putRow := Or.inr ⟨_, w_327⟩
theorem ml_Text_85 : am_mlo "TablePager$Text" 85 y_Table_putAmount := Or.inr ⟨_, w_335⟩
theorem ml_Text_96 : am_mlo "TablePager$Text" 96 y_Table_putSpan := Or.inr ⟨_, w_352⟩
theorem ml_P_9 : am_mlo "TablePager" 9 y_Text_init := Or.inr ⟨_, w_28⟩
theorem ml_P_18 : am_mlo "TablePager" 18 y_Table_init := Or.inr ⟨_, w_46⟩
theorem ml_P_25 : am_mlo "TablePager" 25 y_History_init := Or.inr ⟨_, w_134⟩
theorem ml_P_32 : am_mlo "TablePager" 32 y_Slots_init := Or.inr ⟨_, w_154⟩
theorem ml_P_39 : am_mlo "TablePager" 39 y_Layout_init := Or.inr ⟨_, w_169⟩
theorem ml_P_46 : am_mlo "TablePager" 46 y_Evener_init := Or.inr ⟨_, w_212⟩
theorem ml_P_53 : am_mlo "TablePager" 53 y_Command_init := Or.inr ⟨_, w_230⟩
theorem ml_P_68 : am_mlo "TablePager" 68 y_Text_isFull := Or.inr ⟨_, w_943⟩
theorem ml_P_77 : am_mlo "TablePager" 77 y_Text_put := Or.inr ⟨_, w_948⟩
theorem ml_P_85 : am_mlo "TablePager" 85 y_Text_readInto := Or.inr ⟨_, w_288⟩
theorem ml_P_92 : am_mlo "TablePager" 92 y_Table_copyFrom := Or.inr ⟨_, w_426⟩
theorem ml_P_96 : am_mlo "TablePager" 96 y_History_forget := Or.inr ⟨_, w_433⟩
theorem ml_P_99 : am_mlo "TablePager" 99 y_Slots_empty := Or.inr ⟨_, w_437⟩
theorem ml_P_117 : am_mlo "TablePager" 117 y_P_countPages := Or.inl w_507
theorem ml_P_121 : am_mlo "TablePager" 121 y_P_layOut := Or.inl w_511
theorem ml_P_127 : am_mlo "TablePager" 127 y_Layout_countCutSpans := Or.inr ⟨_, w_554⟩
theorem ml_P_132 : am_mlo "TablePager" 132 y_P_requireRow := Or.inl w_598
theorem ml_P_147 : am_mlo "TablePager" 147 y_Table_cutRows := Or.inr ⟨_, w_607⟩
theorem ml_P_150 : am_mlo "TablePager" 150 y_P_isIn := Or.inl w_608
theorem ml_P_154 : am_mlo "TablePager" 154 y_Layout_pageOf := Or.inr ⟨_, w_609⟩
theorem ml_P_160 : am_mlo "TablePager" 160 y_P_requireColumn := Or.inl w_618
theorem ml_P_163 : am_mlo "TablePager" 163 y_Table_amountAt := Or.inr ⟨_, w_627⟩
theorem ml_P_167 : am_mlo "TablePager" 167 y_P_requireSpan := Or.inl w_639
theorem ml_P_179 : am_mlo "TablePager" 179 y_Layout_pagesOfSpan := Or.inr ⟨_, w_648⟩
theorem ml_P_190 : am_mlo "TablePager" 190 y_P_requirePage := Or.inl w_657
theorem ml_P_193 : am_mlo "TablePager" 193 y_Layout_sheetOf := Or.inr ⟨_, w_666⟩
theorem ml_P_197 : am_mlo "TablePager" 197 y_Layout_firstOf := Or.inr ⟨_, w_682⟩
theorem ml_P_200 : am_mlo "TablePager" 200 y_Layout_lastOf := Or.inr ⟨_, w_683⟩
theorem ml_P_203 : am_mlo "TablePager" 203 y_Sheet_needed := Or.inr ⟨_, w_684⟩
theorem ml_P_211 : am_mlo "TablePager" 211 y_Sheet_noteBits := Or.inr ⟨_, w_685⟩
theorem ml_P_216 : am_mlo "TablePager" 216 y_Table_sumOfRows := Or.inr ⟨_, w_697⟩
theorem ml_P_223 : am_mlo "TablePager" 223 y_Table_allowsRow := Or.inr ⟨_, w_723⟩
theorem ml_P_228 : am_mlo "TablePager" 228 y_Table_isFull := Or.inr ⟨_, w_727⟩
theorem ml_P_231 : am_mlo "TablePager" 231 y_History_remember := Or.inr ⟨_, w_729⟩
theorem ml_P_234 : am_mlo "TablePager" 234 y_Table_putRow := Or.inr ⟨_, w_735⟩
theorem ml_P_240 : am_mlo "TablePager" 240 y_Table_putAmount := Or.inr ⟨_, w_744⟩
theorem ml_P_244 : am_mlo "TablePager" 244 y_Table_dropRow := Or.inr ⟨_, w_770⟩
theorem ml_P_249 : am_mlo "TablePager" 249 y_Table_hasAllSpans := Or.inr ⟨_, w_753⟩
theorem ml_P_254 : am_mlo "TablePager" 254 y_Table_putSpan := Or.inr ⟨_, w_755⟩
theorem ml_P_258 : am_mlo "TablePager" 258 y_Table_dropSpan := Or.inr ⟨_, w_786⟩
theorem ml_P_261 : am_mlo "TablePager" 261 y_Table_allowsHeight := Or.inr ⟨_, w_797⟩
theorem ml_P_266 : am_mlo "TablePager" 266 y_Table_putHeight := Or.inr ⟨_, w_801⟩
theorem ml_P_274 : am_mlo "TablePager" 274 y_History_takeBack := Or.inr ⟨_, w_973⟩
theorem ml_P_279 : am_mlo "TablePager" 279 y_Layout_lay := Or.inr ⟨_, w_515⟩
theorem ml_P_283 : am_mlo "TablePager" 283 y_Evener_leastCost := Or.inr ⟨_, w_820⟩
theorem ml_P_288 : am_mlo "TablePager" 288 y_Evener_lastOf := Or.inr ⟨_, w_837⟩
theorem ml_P_290 : am_mlo "TablePager" 290 y_Layout_emptyFromRow := Or.inr ⟨_, w_849⟩
theorem ml_P_295 : am_mlo "TablePager" 295 y_P_withoutGroups := Or.inl w_861
theorem ml_P_303 : am_mlo "TablePager" 303 y_Command_setDigits := Or.inr ⟨_, w_866⟩
theorem ml_P_306 : am_mlo "TablePager" 306 y_Command_runOn := Or.inr ⟨_, w_870⟩
theorem ml_P_316 : am_mlo "TablePager" 316 y_Table_playRound := Or.inr ⟨_, w_927⟩
theorem ml_P_324 : am_mlo "TablePager" 324 y_P_requireSlot := Or.inl w_450
theorem ml_P_327 : am_mlo "TablePager" 327 y_Slots_put := Or.inr ⟨_, w_469⟩
theorem ml_P_330 : am_mlo "TablePager" 330 y_Slots_isFilled := Or.inr ⟨_, w_482⟩
theorem ml_P_336 : am_mlo "TablePager" 336 y_Slots_copyTo := Or.inr ⟨_, w_487⟩
theorem ml_P_339 : am_mlo "TablePager" 339 y_Table_hasRow := Or.inr ⟨_, w_602⟩
theorem ml_P_347 : am_mlo "TablePager" 347 y_Table_hasColumn := Or.inr ⟨_, w_622⟩
theorem ml_P_352 : am_mlo "TablePager" 352 y_Table_hasSpan := Or.inr ⟨_, w_643⟩
theorem ml_P_357 : am_mlo "TablePager" 357 y_Layout_hasPage := Or.inr ⟨_, w_661⟩
theorem ml_L_9 : am_mlo "TablePagerLaw" 9 y_P_append := Or.inl w_938
theorem ml_L_23 : am_mlo "TablePagerLaw" 23 y_P_load := Or.inl w_284
theorem ml_L_27 : am_mlo "TablePagerLaw" 27 y_P_about := Or.inl w_503
theorem ml_L_30 : am_mlo "TablePagerLaw" 30 y_P_row := Or.inl w_594
theorem ml_L_38 : am_mlo "TablePagerLaw" 38 y_P_amount := Or.inl w_614
theorem ml_L_41 : am_mlo "TablePagerLaw" 41 y_P_span := Or.inl w_635
theorem ml_L_44 : am_mlo "TablePagerLaw" 44 y_P_note := Or.inl w_586
theorem ml_L_47 : am_mlo "TablePagerLaw" 47 y_P_page := Or.inl w_653
theorem ml_L_50 : am_mlo "TablePagerLaw" 50 y_P_brought := Or.inl w_693
theorem ml_L_53 : am_mlo "TablePagerLaw" 53 y_P_carried := Or.inl w_705
theorem ml_L_56 : am_mlo "TablePagerLaw" 56 y_P_richest := Or.inl w_712
theorem ml_L_59 : am_mlo "TablePagerLaw" 59 y_P_addRow := Or.inl w_719
theorem ml_L_62 : am_mlo "TablePagerLaw" 62 y_P_setAmount := Or.inl w_739
theorem ml_L_66 : am_mlo "TablePagerLaw" 66 y_P_keep := Or.inl w_759
theorem ml_L_70 : am_mlo "TablePagerLaw" 70 y_P_removeRow := Or.inl w_766
theorem ml_L_73 : am_mlo "TablePagerLaw" 73 y_P_addSpan := Or.inl w_748
theorem ml_L_77 : am_mlo "TablePagerLaw" 77 y_P_removeSpan := Or.inl w_782
theorem ml_L_80 : am_mlo "TablePagerLaw" 80 y_P_setHeight := Or.inl w_793
theorem ml_L_83 : am_mlo "TablePagerLaw" 83 y_P_undo := Or.inl w_968
theorem ml_L_86 : am_mlo "TablePagerLaw" 86 y_P_heightFor := Or.inl w_808
theorem ml_L_89 : am_mlo "TablePagerLaw" 89 y_P_evenCut := Or.inl w_816
theorem ml_L_92 : am_mlo "TablePagerLaw" 92 y_P_emptyFrom := Or.inl w_845
theorem ml_L_95 : am_mlo "TablePagerLaw" 95 y_P_runScript := Or.inl w_856
theorem ml_L_99 : am_mlo "TablePagerLaw" 99 y_P_simulate := Or.inl w_920
theorem ml_L_103 : am_mlo "TablePagerLaw" 103 y_P_save := Or.inl w_446
theorem ml_L_106 : am_mlo "TablePagerLaw" 106 y_P_restore := Or.inl w_478
theorem ml_L_198 : am_mlo "TablePagerLaw" 198 y_P_evenest := Or.inl w_981
theorem ml_L_177 : am_mlo "TablePagerLaw" 177 y_L_append := Or.inl w_935
theorem ml_L_113 : am_mlo "TablePagerLaw" 113 y_L_about := Or.inl w_499
theorem ml_L_118 : am_mlo "TablePagerLaw" 118 y_L_note := Or.inl w_583
theorem ml_L_120 : am_mlo "TablePagerLaw" 120 y_L_row := Or.inl w_591
theorem ml_L_123 : am_mlo "TablePagerLaw" 123 y_L_amount := Or.inl w_611
theorem ml_L_127 : am_mlo "TablePagerLaw" 127 y_L_span := Or.inl w_632
theorem ml_L_129 : am_mlo "TablePagerLaw" 129 y_L_now := Or.inl w_494
theorem ml_L_201 : am_mlo "TablePagerLaw" 201 y_P_errorPosition := Or.inl w_988
theorem ml_L_160 : am_mlo "TablePagerLaw" 160 y_L_evenCut := Or.inl w_813
theorem ml_L_158 : am_mlo "TablePagerLaw" 158 y_L_heightFor := Or.inl w_805
theorem ml_L_162 : am_mlo "TablePagerLaw" 162 y_L_emptyFrom := Or.inl w_842
theorem ml_L_139 : am_mlo "TablePagerLaw" 139 y_L_richest := Or.inl w_709
theorem ml_L_133 : am_mlo "TablePagerLaw" 133 y_L_page := Or.inl w_650
theorem ml_L_137 : am_mlo "TablePagerLaw" 137 y_L_carried := Or.inl w_702
theorem ml_L_170 : am_mlo "TablePagerLaw" 170 y_L_simulate := Or.inl w_917
theorem ml_L_164 : am_mlo "TablePagerLaw" 164 y_L_script := Or.inl w_853
theorem ml_L_206 : am_mlo "TablePagerLaw" 206 y_P_clearText := Or.inl w_996
theorem ml_L_209 : am_mlo "TablePagerLaw" 209 y_L_says := Or.inl w_1000
theorem ml_L_141 : am_mlo "TablePagerLaw" 141 y_L_addRow := Or.inl w_716
theorem ml_L_143 : am_mlo "TablePagerLaw" 143 y_L_setAmount := Or.inl w_736
theorem ml_L_149 : am_mlo "TablePagerLaw" 149 y_L_keep := Or.inl w_756
theorem ml_L_152 : am_mlo "TablePagerLaw" 152 y_L_removeRow := Or.inl w_763
theorem ml_L_146 : am_mlo "TablePagerLaw" 146 y_L_addSpan := Or.inl w_745
theorem ml_L_154 : am_mlo "TablePagerLaw" 154 y_L_removeSpan := Or.inl w_779
theorem ml_L_191 : am_mlo "TablePagerLaw" 191 y_L_undo := Or.inl w_965
theorem ml_L_173 : am_mlo "TablePagerLaw" 173 y_L_save := Or.inl w_442
theorem ml_L_175 : am_mlo "TablePagerLaw" 175 y_L_restore := Or.inl w_475
theorem ml_L_156 : am_mlo "TablePagerLaw" 156 y_L_setHeight := Or.inl w_790
theorem ml_L_135 : am_mlo "TablePagerLaw" 135 y_L_brought := Or.inl w_690
theorem ml_L_179 : am_mlo "TablePagerLaw" 179 y_L_in := Or.inl w_955
theorem ml_L_195 : am_mlo "TablePagerLaw" 195 y_L_o := Or.inl w_978
theorem ml_L_214 : am_mlo "TablePagerLaw" 214 y_P_init := Or.inl w_20
theorem ml_L_215 : am_mlo "TablePagerLaw" 215 y_L_draw := Or.inl w_275
theorem ml_L_219 : am_mlo "TablePagerLaw" 219 y_L_alike := Or.inl w_985
theorem ml_L_223 : am_mlo "TablePagerLaw" 223 y_L_errors := Or.inl w_491
theorem ml_L_227 : am_mlo "TablePagerLaw" 227 y_L_kept := Or.inl w_952
theorem ml_L_230 : am_mlo "TablePagerLaw" 230 y_L_tells := Or.inl w_993
theorem ml_L_234 : am_mlo "TablePagerLaw" 234 y_L_load := Or.inl w_280
theorem ml_L_236 : am_mlo "TablePagerLaw" 236 y_L_act := Or.inl w_1004
theorem ml_L_239 : am_mlo "TablePagerLaw" 239 y_L_follows := Or.inl w_960
def am_two (own : String) (n ik ic : Nat) : Prop := (1 ≤ n ∧ n ≤ 3) ∧ Cond.classLink own ik (am_en n) ∈ am_tb ∧ Cond.initialized (am_en n) ∈ am_tb ∧ (∀ w ∈ vx_atS own ic (am_en n) am_names, w ∈ am_tb) ∧ (∀ w ∈ Cond.classLink own ik (am_en n) :: Cond.initialized (am_en n) :: vx_atS own ic (am_en n) am_names, vx_ot w = true) ∧ Bundle.fit (am_en n) = true ∧ ∀ n ∈ am_names, Bundle.fit n = true
theorem ta_P_1_65 : (vx_atS "TablePager" 65 (am_en 1) am_names).all (fun w => decide (w ∈ lw_tbl) && am_sv w) = true := by decide +kernel
theorem tw_P_1_65 : am_two "TablePager" 1 61 65 := ⟨by decide, w_566, w_13, fun w hw => by
  have h := List.all_eq_true.mp ta_P_1_65 w hw
  simp only [Bool.and_eq_true, decide_eq_true_eq] at h
  exact List.mem_filter.mpr h, fun w hw => List.all_eq_true.mp (show (Cond.classLink "TablePager" 61 (am_en 1) :: Cond.initialized (am_en 1) :: vx_atS "TablePager" 65 (am_en 1) am_names).all vx_ot = true by decide +kernel) w hw, by decide +kernel, by decide +kernel⟩
theorem ta_P_2_76 : (vx_atS "TablePager" 76 (am_en 2) am_names).all (fun w => decide (w ∈ lw_tbl) && am_sv w) = true := by decide +kernel
theorem tw_P_2_76 : am_two "TablePager" 2 72 76 := ⟨by decide, w_358, w_17, fun w hw => by
  have h := List.all_eq_true.mp ta_P_2_76 w hw
  simp only [Bool.and_eq_true, decide_eq_true_eq] at h
  exact List.mem_filter.mpr h, fun w hw => List.all_eq_true.mp (show (Cond.classLink "TablePager" 72 (am_en 2) :: Cond.initialized (am_en 2) :: vx_atS "TablePager" 76 (am_en 2) am_names).all vx_ot = true by decide +kernel) w hw, by decide +kernel, by decide +kernel⟩
theorem ta_P_3_346 : (vx_atS "TablePager" 346 (am_en 3) am_names).all (fun w => decide (w ∈ lw_tbl) && am_sv w) = true := by decide +kernel
theorem tw_P_3_346 : am_two "TablePager" 3 342 346 := ⟨by decide, w_453, w_14, fun w hw => by
  have h := List.all_eq_true.mp ta_P_3_346 w hw
  simp only [Bool.and_eq_true, decide_eq_true_eq] at h
  exact List.mem_filter.mpr h, fun w hw => List.all_eq_true.mp (show (Cond.classLink "TablePager" 342 (am_en 3) :: Cond.initialized (am_en 3) :: vx_atS "TablePager" 346 (am_en 3) am_names).all vx_ot = true by decide +kernel) w hw, by decide +kernel, by decide +kernel⟩
end
