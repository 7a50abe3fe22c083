section
-- ===== PART A: goes FIRST, ahead of the names: the tables' words, and 'selects' of the private methods out of them =====
/-- a private method of a class that the tables say can be made, by its rows of tables_1 -/
def lw_okq (q : MethodName × Nat) : Prop := (q.1.cls ≠ "java/lang/invoke/MethodHandle" ∧ q.1.cls ≠ "java/lang/invoke/VarHandle") ∧ Cond.instantiable q.1.cls q.2 ∈ tables_1 ∧ Cond.privateMethod q.1 ∈ tables_1 ∧ Cond.instanceMethod q.1 ∈ tables_1
theorem lw_p0 : lw_okq (⟨"ErrataColumn$Text", "add", "(I)Z"⟩, 12) := ⟨⟨by decide +kernel, by decide +kernel⟩, List.mem_of_getElem? (i := 26) (by decide +kernel), List.mem_of_getElem? (i := 303) (by decide +kernel), List.mem_of_getElem? (i := 304) (by decide +kernel)⟩
theorem lw_p1 : lw_okq (⟨"ErrataColumn$Text", "findFault", "()I"⟩, 12) := ⟨⟨by decide +kernel, by decide +kernel⟩, List.mem_of_getElem? (i := 26) (by decide +kernel), List.mem_of_getElem? (i := 315) (by decide +kernel), List.mem_of_getElem? (i := 316) (by decide +kernel)⟩
theorem lw_p2 : lw_okq (⟨"ErrataColumn$Text", "accepts", "(I)Z"⟩, 12) := ⟨⟨by decide +kernel, by decide +kernel⟩, List.mem_of_getElem? (i := 26) (by decide +kernel), List.mem_of_getElem? (i := 319) (by decide +kernel), List.mem_of_getElem? (i := 320) (by decide +kernel)⟩
theorem lw_p3 : lw_okq (⟨"ErrataColumn$Text", "acceptsE", "(I)Z"⟩, 12) := ⟨⟨by decide +kernel, by decide +kernel⟩, List.mem_of_getElem? (i := 26) (by decide +kernel), List.mem_of_getElem? (i := 323) (by decide +kernel), List.mem_of_getElem? (i := 324) (by decide +kernel)⟩
theorem lw_p4 : lw_okq (⟨"ErrataColumn$Text", "acceptsTruth", "(I)Z"⟩, 12) := ⟨⟨by decide +kernel, by decide +kernel⟩, List.mem_of_getElem? (i := 26) (by decide +kernel), List.mem_of_getElem? (i := 327) (by decide +kernel), List.mem_of_getElem? (i := 328) (by decide +kernel)⟩
theorem lw_p5 : lw_okq (⟨"ErrataColumn$Text", "acceptsSaid", "(I)Z"⟩, 12) := ⟨⟨by decide +kernel, by decide +kernel⟩, List.mem_of_getElem? (i := 26) (by decide +kernel), List.mem_of_getElem? (i := 334) (by decide +kernel), List.mem_of_getElem? (i := 335) (by decide +kernel)⟩
theorem lw_p6 : lw_okq (⟨"ErrataColumn$Text", "acceptsPart", "(I)Z"⟩, 12) := ⟨⟨by decide +kernel, by decide +kernel⟩, List.mem_of_getElem? (i := 26) (by decide +kernel), List.mem_of_getElem? (i := 338) (by decide +kernel), List.mem_of_getElem? (i := 339) (by decide +kernel)⟩
theorem lw_p7 : lw_okq (⟨"ErrataColumn$Text", "acceptsKind", "(I)Z"⟩, 12) := ⟨⟨by decide +kernel, by decide +kernel⟩, List.mem_of_getElem? (i := 26) (by decide +kernel), List.mem_of_getElem? (i := 342) (by decide +kernel), List.mem_of_getElem? (i := 343) (by decide +kernel)⟩
theorem lw_p8 : lw_okq (⟨"ErrataColumn$Text", "acceptsPeriod", "(I)Z"⟩, 12) := ⟨⟨by decide +kernel, by decide +kernel⟩, List.mem_of_getElem? (i := 26) (by decide +kernel), List.mem_of_getElem? (i := 346) (by decide +kernel), List.mem_of_getElem? (i := 347) (by decide +kernel)⟩
theorem lw_p9 : lw_okq (⟨"ErrataColumn$Text", "acceptsLeft", "(I)Z"⟩, 12) := ⟨⟨by decide +kernel, by decide +kernel⟩, List.mem_of_getElem? (i := 26) (by decide +kernel), List.mem_of_getElem? (i := 350) (by decide +kernel), List.mem_of_getElem? (i := 351) (by decide +kernel)⟩
theorem lw_p10 : lw_okq (⟨"ErrataColumn$Sheet", "makeAnew", "(LErrataColumn$Text;)V"⟩, 7) := ⟨⟨by decide +kernel, by decide +kernel⟩, List.mem_of_getElem? (i := 79) (by decide +kernel), List.mem_of_getElem? (i := 358) (by decide +kernel), List.mem_of_getElem? (i := 359) (by decide +kernel)⟩
theorem lw_p11 : lw_okq (⟨"ErrataColumn$Standing", "setSaid", "(I)V"⟩, 1) := ⟨⟨by decide +kernel, by decide +kernel⟩, List.mem_of_getElem? (i := 99) (by decide +kernel), List.mem_of_getElem? (i := 365) (by decide +kernel), List.mem_of_getElem? (i := 366) (by decide +kernel)⟩
theorem lw_p12 : lw_okq (⟨"ErrataColumn$Standing", "startDays", "()V"⟩, 1) := ⟨⟨by decide +kernel, by decide +kernel⟩, List.mem_of_getElem? (i := 99) (by decide +kernel), List.mem_of_getElem? (i := 369) (by decide +kernel), List.mem_of_getElem? (i := 370) (by decide +kernel)⟩
theorem lw_p13 : lw_okq (⟨"ErrataColumn$Standing", "setKind", "(II)V"⟩, 1) := ⟨⟨by decide +kernel, by decide +kernel⟩, List.mem_of_getElem? (i := 99) (by decide +kernel), List.mem_of_getElem? (i := 373) (by decide +kernel), List.mem_of_getElem? (i := 374) (by decide +kernel)⟩
theorem lw_p14 : lw_okq (⟨"ErrataColumn$Standing", "setBelief", "(II)V"⟩, 1) := ⟨⟨by decide +kernel, by decide +kernel⟩, List.mem_of_getElem? (i := 99) (by decide +kernel), List.mem_of_getElem? (i := 377) (by decide +kernel), List.mem_of_getElem? (i := 378) (by decide +kernel)⟩
theorem lw_p15 : lw_okq (⟨"ErrataColumn$Past", "forget", "()V"⟩, 3) := ⟨⟨by decide +kernel, by decide +kernel⟩, List.mem_of_getElem? (i := 148) (by decide +kernel), List.mem_of_getElem? (i := 381) (by decide +kernel), List.mem_of_getElem? (i := 382) (by decide +kernel)⟩
def lw_privs_1 : List (MethodName × Nat) := [(⟨"ErrataColumn$Text", "add", "(I)Z"⟩, 12), (⟨"ErrataColumn$Text", "findFault", "()I"⟩, 12), (⟨"ErrataColumn$Text", "accepts", "(I)Z"⟩, 12), (⟨"ErrataColumn$Text", "acceptsE", "(I)Z"⟩, 12), (⟨"ErrataColumn$Text", "acceptsTruth", "(I)Z"⟩, 12), (⟨"ErrataColumn$Text", "acceptsSaid", "(I)Z"⟩, 12), (⟨"ErrataColumn$Text", "acceptsPart", "(I)Z"⟩, 12), (⟨"ErrataColumn$Text", "acceptsKind", "(I)Z"⟩, 12), (⟨"ErrataColumn$Text", "acceptsPeriod", "(I)Z"⟩, 12), (⟨"ErrataColumn$Text", "acceptsLeft", "(I)Z"⟩, 12), (⟨"ErrataColumn$Sheet", "makeAnew", "(LErrataColumn$Text;)V"⟩, 7), (⟨"ErrataColumn$Standing", "setSaid", "(I)V"⟩, 1), (⟨"ErrataColumn$Standing", "startDays", "()V"⟩, 1), (⟨"ErrataColumn$Standing", "setKind", "(II)V"⟩, 1), (⟨"ErrataColumn$Standing", "setBelief", "(II)V"⟩, 1), (⟨"ErrataColumn$Past", "forget", "()V"⟩, 3)]
theorem lw_r1 : ∀ q ∈ lw_privs_1, lw_okq q := List.forall_mem_cons.mpr ⟨lw_p0, List.forall_mem_cons.mpr ⟨lw_p1, List.forall_mem_cons.mpr ⟨lw_p2, List.forall_mem_cons.mpr ⟨lw_p3, List.forall_mem_cons.mpr ⟨lw_p4, List.forall_mem_cons.mpr ⟨lw_p5, List.forall_mem_cons.mpr ⟨lw_p6, List.forall_mem_cons.mpr ⟨lw_p7, List.forall_mem_cons.mpr ⟨lw_p8, List.forall_mem_cons.mpr ⟨lw_p9, List.forall_mem_cons.mpr ⟨lw_p10, List.forall_mem_cons.mpr ⟨lw_p11, List.forall_mem_cons.mpr ⟨lw_p12, List.forall_mem_cons.mpr ⟨lw_p13, List.forall_mem_cons.mpr ⟨lw_p14, List.forall_mem_cons.mpr ⟨lw_p15, fun _ h => absurd h List.not_mem_nil⟩⟩⟩⟩⟩⟩⟩⟩⟩⟩⟩⟩⟩⟩⟩⟩
theorem lw_p16 : lw_okq (⟨"ErrataColumn$Spelling", "told", "(I)I"⟩, 1) := ⟨⟨by decide +kernel, by decide +kernel⟩, List.mem_of_getElem? (i := 85) (by decide +kernel), List.mem_of_getElem? (i := 389) (by decide +kernel), List.mem_of_getElem? (i := 390) (by decide +kernel)⟩
theorem lw_p17 : lw_okq (⟨"ErrataColumn$Spelling", "letterAt", "(II)I"⟩, 1) := ⟨⟨by decide +kernel, by decide +kernel⟩, List.mem_of_getElem? (i := 85) (by decide +kernel), List.mem_of_getElem? (i := 393) (by decide +kernel), List.mem_of_getElem? (i := 394) (by decide +kernel)⟩
theorem lw_p18 : lw_okq (⟨"ErrataColumn$Standing", "said", "()I"⟩, 1) := ⟨⟨by decide +kernel, by decide +kernel⟩, List.mem_of_getElem? (i := 99) (by decide +kernel), List.mem_of_getElem? (i := 397) (by decide +kernel), List.mem_of_getElem? (i := 398) (by decide +kernel)⟩
theorem lw_p19 : lw_okq (⟨"ErrataColumn$Sheet", "rightOf", "(I)I"⟩, 7) := ⟨⟨by decide +kernel, by decide +kernel⟩, List.mem_of_getElem? (i := 79) (by decide +kernel), List.mem_of_getElem? (i := 401) (by decide +kernel), List.mem_of_getElem? (i := 402) (by decide +kernel)⟩
theorem lw_p20 : lw_okq (⟨"ErrataColumn$Standing", "day", "()I"⟩, 1) := ⟨⟨by decide +kernel, by decide +kernel⟩, List.mem_of_getElem? (i := 99) (by decide +kernel), List.mem_of_getElem? (i := 414) (by decide +kernel), List.mem_of_getElem? (i := 415) (by decide +kernel)⟩
theorem lw_p21 : lw_okq (⟨"ErrataColumn$Sheet", "readingToday", "()I"⟩, 7) := ⟨⟨by decide +kernel, by decide +kernel⟩, List.mem_of_getElem? (i := 79) (by decide +kernel), List.mem_of_getElem? (i := 418) (by decide +kernel), List.mem_of_getElem? (i := 419) (by decide +kernel)⟩
theorem lw_p22 : lw_okq (⟨"ErrataColumn$Sheet", "readsOn", "(II)Z"⟩, 7) := ⟨⟨by decide +kernel, by decide +kernel⟩, List.mem_of_getElem? (i := 79) (by decide +kernel), List.mem_of_getElem? (i := 423) (by decide +kernel), List.mem_of_getElem? (i := 424) (by decide +kernel)⟩
theorem lw_p23 : lw_okq (⟨"ErrataColumn$Sheet", "periodOf", "(I)I"⟩, 7) := ⟨⟨by decide +kernel, by decide +kernel⟩, List.mem_of_getElem? (i := 79) (by decide +kernel), List.mem_of_getElem? (i := 427) (by decide +kernel), List.mem_of_getElem? (i := 428) (by decide +kernel)⟩
theorem lw_p24 : lw_okq (⟨"ErrataColumn$Sheet", "leftOf", "(I)I"⟩, 7) := ⟨⟨by decide +kernel, by decide +kernel⟩, List.mem_of_getElem? (i := 79) (by decide +kernel), List.mem_of_getElem? (i := 431) (by decide +kernel), List.mem_of_getElem? (i := 432) (by decide +kernel)⟩
theorem lw_p25 : lw_okq (⟨"ErrataColumn$Sheet", "believingTruth", "()I"⟩, 7) := ⟨⟨by decide +kernel, by decide +kernel⟩, List.mem_of_getElem? (i := 79) (by decide +kernel), List.mem_of_getElem? (i := 435) (by decide +kernel), List.mem_of_getElem? (i := 436) (by decide +kernel)⟩
theorem lw_p26 : lw_okq (⟨"ErrataColumn$Standing", "beliefOf", "(I)I"⟩, 1) := ⟨⟨by decide +kernel, by decide +kernel⟩, List.mem_of_getElem? (i := 99) (by decide +kernel), List.mem_of_getElem? (i := 439) (by decide +kernel), List.mem_of_getElem? (i := 440) (by decide +kernel)⟩
theorem lw_p27 : lw_okq (⟨"ErrataColumn$Sheet", "hasCompositor", "(I)Z"⟩, 7) := ⟨⟨by decide +kernel, by decide +kernel⟩, List.mem_of_getElem? (i := 79) (by decide +kernel), List.mem_of_getElem? (i := 447) (by decide +kernel), List.mem_of_getElem? (i := 448) (by decide +kernel)⟩
theorem lw_p28 : lw_okq (⟨"ErrataColumn$Standing", "kindOf", "(I)I"⟩, 1) := ⟨⟨by decide +kernel, by decide +kernel⟩, List.mem_of_getElem? (i := 99) (by decide +kernel), List.mem_of_getElem? (i := 451) (by decide +kernel), List.mem_of_getElem? (i := 452) (by decide +kernel)⟩
theorem lw_p29 : lw_okq (⟨"ErrataColumn$Sheet", "hasReader", "(I)Z"⟩, 7) := ⟨⟨by decide +kernel, by decide +kernel⟩, List.mem_of_getElem? (i := 79) (by decide +kernel), List.mem_of_getElem? (i := 459) (by decide +kernel), List.mem_of_getElem? (i := 460) (by decide +kernel)⟩
theorem lw_p30 : lw_okq (⟨"ErrataColumn$Sheet", "isNoticeFor", "(II)Z"⟩, 7) := ⟨⟨by decide +kernel, by decide +kernel⟩, List.mem_of_getElem? (i := 79) (by decide +kernel), List.mem_of_getElem? (i := 470) (by decide +kernel), List.mem_of_getElem? (i := 471) (by decide +kernel)⟩
theorem lw_p31 : lw_okq (⟨"ErrataColumn$Spelling", "hasPlace", "(I)Z"⟩, 1) := ⟨⟨by decide +kernel, by decide +kernel⟩, List.mem_of_getElem? (i := 85) (by decide +kernel), List.mem_of_getElem? (i := 474) (by decide +kernel), List.mem_of_getElem? (i := 475) (by decide +kernel)⟩
def lw_privs_2 : List (MethodName × Nat) := [(⟨"ErrataColumn$Spelling", "told", "(I)I"⟩, 1), (⟨"ErrataColumn$Spelling", "letterAt", "(II)I"⟩, 1), (⟨"ErrataColumn$Standing", "said", "()I"⟩, 1), (⟨"ErrataColumn$Sheet", "rightOf", "(I)I"⟩, 7), (⟨"ErrataColumn$Standing", "day", "()I"⟩, 1), (⟨"ErrataColumn$Sheet", "readingToday", "()I"⟩, 7), (⟨"ErrataColumn$Sheet", "readsOn", "(II)Z"⟩, 7), (⟨"ErrataColumn$Sheet", "periodOf", "(I)I"⟩, 7), (⟨"ErrataColumn$Sheet", "leftOf", "(I)I"⟩, 7), (⟨"ErrataColumn$Sheet", "believingTruth", "()I"⟩, 7), (⟨"ErrataColumn$Standing", "beliefOf", "(I)I"⟩, 1), (⟨"ErrataColumn$Sheet", "hasCompositor", "(I)Z"⟩, 7), (⟨"ErrataColumn$Standing", "kindOf", "(I)I"⟩, 1), (⟨"ErrataColumn$Sheet", "hasReader", "(I)Z"⟩, 7), (⟨"ErrataColumn$Sheet", "isNoticeFor", "(II)Z"⟩, 7), (⟨"ErrataColumn$Spelling", "hasPlace", "(I)Z"⟩, 1)]
theorem lw_r2 : ∀ q ∈ lw_privs_2, lw_okq q := List.forall_mem_cons.mpr ⟨lw_p16, List.forall_mem_cons.mpr ⟨lw_p17, List.forall_mem_cons.mpr ⟨lw_p18, List.forall_mem_cons.mpr ⟨lw_p19, List.forall_mem_cons.mpr ⟨lw_p20, List.forall_mem_cons.mpr ⟨lw_p21, List.forall_mem_cons.mpr ⟨lw_p22, List.forall_mem_cons.mpr ⟨lw_p23, List.forall_mem_cons.mpr ⟨lw_p24, List.forall_mem_cons.mpr ⟨lw_p25, List.forall_mem_cons.mpr ⟨lw_p26, List.forall_mem_cons.mpr ⟨lw_p27, List.forall_mem_cons.mpr ⟨lw_p28, List.forall_mem_cons.mpr ⟨lw_p29, List.forall_mem_cons.mpr ⟨lw_p30, List.forall_mem_cons.mpr ⟨lw_p31, fun _ h => absurd h List.not_mem_nil⟩⟩⟩⟩⟩⟩⟩⟩⟩⟩⟩⟩⟩⟩⟩⟩
theorem lw_p32 : lw_okq (⟨"ErrataColumn$Past", "note", "(LErrataColumn$Standing;)V"⟩, 3) := ⟨⟨by decide +kernel, by decide +kernel⟩, List.mem_of_getElem? (i := 148) (by decide +kernel), List.mem_of_getElem? (i := 478) (by decide +kernel), List.mem_of_getElem? (i := 479) (by decide +kernel)⟩
theorem lw_p33 : lw_okq (⟨"ErrataColumn$Shelf", "put", "(ILErrataColumn$Standing;)V"⟩, 1) := ⟨⟨by decide +kernel, by decide +kernel⟩, List.mem_of_getElem? (i := 154) (by decide +kernel), List.mem_of_getElem? (i := 482) (by decide +kernel), List.mem_of_getElem? (i := 483) (by decide +kernel)⟩
theorem lw_p34 : lw_okq (⟨"ErrataColumn$Shelf", "holds", "(I)Z"⟩, 1) := ⟨⟨by decide +kernel, by decide +kernel⟩, List.mem_of_getElem? (i := 154) (by decide +kernel), List.mem_of_getElem? (i := 486) (by decide +kernel), List.mem_of_getElem? (i := 487) (by decide +kernel)⟩
theorem lw_p35 : lw_okq (⟨"ErrataColumn$Sheet", "printNotice", "(III)V"⟩, 7) := ⟨⟨by decide +kernel, by decide +kernel⟩, List.mem_of_getElem? (i := 79) (by decide +kernel), List.mem_of_getElem? (i := 494) (by decide +kernel), List.mem_of_getElem? (i := 495) (by decide +kernel)⟩
theorem lw_p36 : lw_okq (⟨"ErrataColumn$Sheet", "noticed", "(IIII)I"⟩, 7) := ⟨⟨by decide +kernel, by decide +kernel⟩, List.mem_of_getElem? (i := 79) (by decide +kernel), List.mem_of_getElem? (i := 499) (by decide +kernel), List.mem_of_getElem? (i := 500) (by decide +kernel)⟩
theorem lw_p37 : lw_okq (⟨"ErrataColumn$Spelling", "noticed", "(IIII)I"⟩, 1) := ⟨⟨by decide +kernel, by decide +kernel⟩, List.mem_of_getElem? (i := 85) (by decide +kernel), List.mem_of_getElem? (i := 504) (by decide +kernel), List.mem_of_getElem? (i := 505) (by decide +kernel)⟩
theorem lw_p38 : lw_okq (⟨"ErrataColumn$Spelling", "nextPlace", "(I)I"⟩, 1) := ⟨⟨by decide +kernel, by decide +kernel⟩, List.mem_of_getElem? (i := 85) (by decide +kernel), List.mem_of_getElem? (i := 508) (by decide +kernel), List.mem_of_getElem? (i := 509) (by decide +kernel)⟩
theorem lw_p39 : lw_okq (⟨"ErrataColumn$Spelling", "withLetter", "(III)I"⟩, 1) := ⟨⟨by decide +kernel, by decide +kernel⟩, List.mem_of_getElem? (i := 85) (by decide +kernel), List.mem_of_getElem? (i := 512) (by decide +kernel), List.mem_of_getElem? (i := 513) (by decide +kernel)⟩
theorem lw_p40 : lw_okq (⟨"ErrataColumn$Standing", "nextDay", "()V"⟩, 1) := ⟨⟨by decide +kernel, by decide +kernel⟩, List.mem_of_getElem? (i := 99) (by decide +kernel), List.mem_of_getElem? (i := 516) (by decide +kernel), List.mem_of_getElem? (i := 517) (by decide +kernel)⟩
theorem lw_p41 : lw_okq (⟨"ErrataColumn$Past", "bringBack", "(LErrataColumn$Standing;)Z"⟩, 3) := ⟨⟨by decide +kernel, by decide +kernel⟩, List.mem_of_getElem? (i := 148) (by decide +kernel), List.mem_of_getElem? (i := 539) (by decide +kernel), List.mem_of_getElem? (i := 540) (by decide +kernel)⟩
theorem lw_p42 : lw_okq (⟨"ErrataColumn$Shelf", "fetch", "(ILErrataColumn$Standing;)V"⟩, 1) := ⟨⟨by decide +kernel, by decide +kernel⟩, List.mem_of_getElem? (i := 154) (by decide +kernel), List.mem_of_getElem? (i := 543) (by decide +kernel), List.mem_of_getElem? (i := 544) (by decide +kernel)⟩
theorem lw_p43 : lw_okq (⟨"ErrataColumn$Spelling", "packed", "(I)I"⟩, 1) := ⟨⟨by decide +kernel, by decide +kernel⟩, List.mem_of_getElem? (i := 85) (by decide +kernel), List.mem_of_getElem? (i := 551) (by decide +kernel), List.mem_of_getElem? (i := 552) (by decide +kernel)⟩
theorem lw_p44 : lw_okq (⟨"ErrataColumn$Row", "read", "(LErrataColumn$Sheet;IIJ)Z"⟩, 2) := ⟨⟨by decide +kernel, by decide +kernel⟩, List.mem_of_getElem? (i := 180) (by decide +kernel), List.mem_of_getElem? (i := 555) (by decide +kernel), List.mem_of_getElem? (i := 556) (by decide +kernel)⟩
theorem lw_p45 : lw_okq (⟨"ErrataColumn$Row", "doneOn", "(LErrataColumn$Sheet;I)I"⟩, 2) := ⟨⟨by decide +kernel, by decide +kernel⟩, List.mem_of_getElem? (i := 180) (by decide +kernel), List.mem_of_getElem? (i := 562) (by decide +kernel), List.mem_of_getElem? (i := 563) (by decide +kernel)⟩
theorem lw_p46 : lw_okq (⟨"ErrataColumn$Righting", "search", "(LErrataColumn$Sheet;I)V"⟩, 3) := ⟨⟨by decide +kernel, by decide +kernel⟩, List.mem_of_getElem? (i := 193) (by decide +kernel), List.mem_of_getElem? (i := 571) (by decide +kernel), List.mem_of_getElem? (i := 572) (by decide +kernel)⟩
theorem lw_p47 : lw_okq (⟨"ErrataColumn$Righting", "readBeliefs", "(LErrataColumn$Sheet;I)V"⟩, 3) := ⟨⟨by decide +kernel, by decide +kernel⟩, List.mem_of_getElem? (i := 193) (by decide +kernel), List.mem_of_getElem? (i := 580) (by decide +kernel), List.mem_of_getElem? (i := 581) (by decide +kernel)⟩
def lw_privs_3 : List (MethodName × Nat) := [(⟨"ErrataColumn$Past", "note", "(LErrataColumn$Standing;)V"⟩, 3), (⟨"ErrataColumn$Shelf", "put", "(ILErrataColumn$Standing;)V"⟩, 1), (⟨"ErrataColumn$Shelf", "holds", "(I)Z"⟩, 1), (⟨"ErrataColumn$Sheet", "printNotice", "(III)V"⟩, 7), (⟨"ErrataColumn$Sheet", "noticed", "(IIII)I"⟩, 7), (⟨"ErrataColumn$Spelling", "noticed", "(IIII)I"⟩, 1), (⟨"ErrataColumn$Spelling", "nextPlace", "(I)I"⟩, 1), (⟨"ErrataColumn$Spelling", "withLetter", "(III)I"⟩, 1), (⟨"ErrataColumn$Standing", "nextDay", "()V"⟩, 1), (⟨"ErrataColumn$Past", "bringBack", "(LErrataColumn$Standing;)Z"⟩, 3), (⟨"ErrataColumn$Shelf", "fetch", "(ILErrataColumn$Standing;)V"⟩, 1), (⟨"ErrataColumn$Spelling", "packed", "(I)I"⟩, 1), (⟨"ErrataColumn$Row", "read", "(LErrataColumn$Sheet;IIJ)Z"⟩, 2), (⟨"ErrataColumn$Row", "doneOn", "(LErrataColumn$Sheet;I)I"⟩, 2), (⟨"ErrataColumn$Righting", "search", "(LErrataColumn$Sheet;I)V"⟩, 3), (⟨"ErrataColumn$Righting", "readBeliefs", "(LErrataColumn$Sheet;I)V"⟩, 3)]
theorem lw_r3 : ∀ q ∈ lw_privs_3, lw_okq q := List.forall_mem_cons.mpr ⟨lw_p32, List.forall_mem_cons.mpr ⟨lw_p33, List.forall_mem_cons.mpr ⟨lw_p34, List.forall_mem_cons.mpr ⟨lw_p35, List.forall_mem_cons.mpr ⟨lw_p36, List.forall_mem_cons.mpr ⟨lw_p37, List.forall_mem_cons.mpr ⟨lw_p38, List.forall_mem_cons.mpr ⟨lw_p39, List.forall_mem_cons.mpr ⟨lw_p40, List.forall_mem_cons.mpr ⟨lw_p41, List.forall_mem_cons.mpr ⟨lw_p42, List.forall_mem_cons.mpr ⟨lw_p43, List.forall_mem_cons.mpr ⟨lw_p44, List.forall_mem_cons.mpr ⟨lw_p45, List.forall_mem_cons.mpr ⟨lw_p46, List.forall_mem_cons.mpr ⟨lw_p47, fun _ h => absurd h List.not_mem_nil⟩⟩⟩⟩⟩⟩⟩⟩⟩⟩⟩⟩⟩⟩⟩⟩
theorem lw_p48 : lw_okq (⟨"ErrataColumn$Righting", "lastNotice", "(LErrataColumn$Sheet;III)I"⟩, 3) := ⟨⟨by decide +kernel, by decide +kernel⟩, List.mem_of_getElem? (i := 193) (by decide +kernel), List.mem_of_getElem? (i := 586) (by decide +kernel), List.mem_of_getElem? (i := 587) (by decide +kernel)⟩
theorem lw_p49 : lw_okq (⟨"ErrataColumn$Righting", "rightsBeliefs", "(LErrataColumn$Sheet;IIIII)Z"⟩, 3) := ⟨⟨by decide +kernel, by decide +kernel⟩, List.mem_of_getElem? (i := 193) (by decide +kernel), List.mem_of_getElem? (i := 592) (by decide +kernel), List.mem_of_getElem? (i := 593) (by decide +kernel)⟩
theorem lw_p50 : lw_okq (⟨"ErrataColumn$Righting", "twoNotices", "(LErrataColumn$Sheet;I)I"⟩, 3) := ⟨⟨by decide +kernel, by decide +kernel⟩, List.mem_of_getElem? (i := 193) (by decide +kernel), List.mem_of_getElem? (i := 597) (by decide +kernel), List.mem_of_getElem? (i := 598) (by decide +kernel)⟩
theorem lw_p51 : lw_okq (⟨"ErrataColumn$Righting", "readAhead", "(LErrataColumn$Sheet;IIII)V"⟩, 3) := ⟨⟨by decide +kernel, by decide +kernel⟩, List.mem_of_getElem? (i := 193) (by decide +kernel), List.mem_of_getElem? (i := 601) (by decide +kernel), List.mem_of_getElem? (i := 602) (by decide +kernel)⟩
theorem lw_p52 : lw_okq (⟨"ErrataColumn$Row", "nameOnRing", "(LErrataColumn$Sheet;)I"⟩, 2) := ⟨⟨by decide +kernel, by decide +kernel⟩, List.mem_of_getElem? (i := 180) (by decide +kernel), List.mem_of_getElem? (i := 614) (by decide +kernel), List.mem_of_getElem? (i := 615) (by decide +kernel)⟩
theorem lw_p53 : lw_okq (⟨"ErrataColumn$Row", "roundsToRing", "(LErrataColumn$Sheet;I)I"⟩, 2) := ⟨⟨by decide +kernel, by decide +kernel⟩, List.mem_of_getElem? (i := 180) (by decide +kernel), List.mem_of_getElem? (i := 620) (by decide +kernel), List.mem_of_getElem? (i := 621) (by decide +kernel)⟩
theorem lw_p54 : lw_okq (⟨"ErrataColumn$Row", "roundsOfRing", "(LErrataColumn$Sheet;I)I"⟩, 2) := ⟨⟨by decide +kernel, by decide +kernel⟩, List.mem_of_getElem? (i := 180) (by decide +kernel), List.mem_of_getElem? (i := 624) (by decide +kernel), List.mem_of_getElem? (i := 625) (by decide +kernel)⟩
theorem lw_p55 : lw_okq (⟨"ErrataColumn$Spelling", "names", "()I"⟩, 1) := ⟨⟨by decide +kernel, by decide +kernel⟩, List.mem_of_getElem? (i := 85) (by decide +kernel), List.mem_of_getElem? (i := 632) (by decide +kernel), List.mem_of_getElem? (i := 633) (by decide +kernel)⟩
theorem lw_p56 : lw_okq (⟨"ErrataColumn$Spelling", "placesAlike", "(I)I"⟩, 1) := ⟨⟨by decide +kernel, by decide +kernel⟩, List.mem_of_getElem? (i := 85) (by decide +kernel), List.mem_of_getElem? (i := 636) (by decide +kernel), List.mem_of_getElem? (i := 637) (by decide +kernel)⟩
theorem lw_p57 : lw_okq (⟨"ErrataColumn$Code", "take", "(LErrataColumn$Spelling;II)V"⟩, 5) := ⟨⟨by decide +kernel, by decide +kernel⟩, List.mem_of_getElem? (i := 211) (by decide +kernel), List.mem_of_getElem? (i := 649) (by decide +kernel), List.mem_of_getElem? (i := 650) (by decide +kernel)⟩
theorem lw_p58 : lw_okq (⟨"ErrataColumn$Code", "findSlips", "(LErrataColumn$Spelling;I)V"⟩, 5) := ⟨⟨by decide +kernel, by decide +kernel⟩, List.mem_of_getElem? (i := 211) (by decide +kernel), List.mem_of_getElem? (i := 653) (by decide +kernel), List.mem_of_getElem? (i := 654) (by decide +kernel)⟩
theorem lw_p59 : lw_okq (⟨"ErrataColumn$Code", "clearNear", "()V"⟩, 5) := ⟨⟨by decide +kernel, by decide +kernel⟩, List.mem_of_getElem? (i := 211) (by decide +kernel), List.mem_of_getElem? (i := 659) (by decide +kernel), List.mem_of_getElem? (i := 660) (by decide +kernel)⟩
theorem lw_p60 : lw_okq (⟨"ErrataColumn$Code", "barAround", "(I)V"⟩, 5) := ⟨⟨by decide +kernel, by decide +kernel⟩, List.mem_of_getElem? (i := 211) (by decide +kernel), List.mem_of_getElem? (i := 663) (by decide +kernel), List.mem_of_getElem? (i := 664) (by decide +kernel)⟩
theorem lw_p61 : lw_okq (⟨"ErrataColumn$Editors", "look", "(LErrataColumn$Sheet;IIII)V"⟩, 2) := ⟨⟨by decide +kernel, by decide +kernel⟩, List.mem_of_getElem? (i := 236) (by decide +kernel), List.mem_of_getElem? (i := 675) (by decide +kernel), List.mem_of_getElem? (i := 676) (by decide +kernel)⟩
theorem lw_p62 : lw_okq (⟨"ErrataColumn$Editors", "restsInAll", "()I"⟩, 2) := ⟨⟨by decide +kernel, by decide +kernel⟩, List.mem_of_getElem? (i := 236) (by decide +kernel), List.mem_of_getElem? (i := 683) (by decide +kernel), List.mem_of_getElem? (i := 684) (by decide +kernel)⟩
theorem lw_p63 : lw_okq (⟨"ErrataColumn$Editors", "isAtRest", "(II)Z"⟩, 2) := ⟨⟨by decide +kernel, by decide +kernel⟩, List.mem_of_getElem? (i := 236) (by decide +kernel), List.mem_of_getElem? (i := 687) (by decide +kernel), List.mem_of_getElem? (i := 688) (by decide +kernel)⟩
def lw_privs_4 : List (MethodName × Nat) := [(⟨"ErrataColumn$Righting", "lastNotice", "(LErrataColumn$Sheet;III)I"⟩, 3), (⟨"ErrataColumn$Righting", "rightsBeliefs", "(LErrataColumn$Sheet;IIIII)Z"⟩, 3), (⟨"ErrataColumn$Righting", "twoNotices", "(LErrataColumn$Sheet;I)I"⟩, 3), (⟨"ErrataColumn$Righting", "readAhead", "(LErrataColumn$Sheet;IIII)V"⟩, 3), (⟨"ErrataColumn$Row", "nameOnRing", "(LErrataColumn$Sheet;)I"⟩, 2), (⟨"ErrataColumn$Row", "roundsToRing", "(LErrataColumn$Sheet;I)I"⟩, 2), (⟨"ErrataColumn$Row", "roundsOfRing", "(LErrataColumn$Sheet;I)I"⟩, 2), (⟨"ErrataColumn$Spelling", "names", "()I"⟩, 1), (⟨"ErrataColumn$Spelling", "placesAlike", "(I)I"⟩, 1), (⟨"ErrataColumn$Code", "take", "(LErrataColumn$Spelling;II)V"⟩, 5), (⟨"ErrataColumn$Code", "findSlips", "(LErrataColumn$Spelling;I)V"⟩, 5), (⟨"ErrataColumn$Code", "clearNear", "()V"⟩, 5), (⟨"ErrataColumn$Code", "barAround", "(I)V"⟩, 5), (⟨"ErrataColumn$Editors", "look", "(LErrataColumn$Sheet;IIII)V"⟩, 2), (⟨"ErrataColumn$Editors", "restsInAll", "()I"⟩, 2), (⟨"ErrataColumn$Editors", "isAtRest", "(II)Z"⟩, 2)]
theorem lw_r4 : ∀ q ∈ lw_privs_4, lw_okq q := List.forall_mem_cons.mpr ⟨lw_p48, List.forall_mem_cons.mpr ⟨lw_p49, List.forall_mem_cons.mpr ⟨lw_p50, List.forall_mem_cons.mpr ⟨lw_p51, List.forall_mem_cons.mpr ⟨lw_p52, List.forall_mem_cons.mpr ⟨lw_p53, List.forall_mem_cons.mpr ⟨lw_p54, List.forall_mem_cons.mpr ⟨lw_p55, List.forall_mem_cons.mpr ⟨lw_p56, List.forall_mem_cons.mpr ⟨lw_p57, List.forall_mem_cons.mpr ⟨lw_p58, List.forall_mem_cons.mpr ⟨lw_p59, List.forall_mem_cons.mpr ⟨lw_p60, List.forall_mem_cons.mpr ⟨lw_p61, List.forall_mem_cons.mpr ⟨lw_p62, List.forall_mem_cons.mpr ⟨lw_p63, fun _ h => absurd h List.not_mem_nil⟩⟩⟩⟩⟩⟩⟩⟩⟩⟩⟩⟩⟩⟩⟩⟩
theorem lw_p64 : lw_okq (⟨"ErrataColumn$Editors", "rightBy", "(II)I"⟩, 2) := ⟨⟨by decide +kernel, by decide +kernel⟩, List.mem_of_getElem? (i := 236) (by decide +kernel), List.mem_of_getElem? (i := 691) (by decide +kernel), List.mem_of_getElem? (i := 692) (by decide +kernel)⟩
theorem lw_p65 : lw_okq (⟨"ErrataColumn$Editors", "leastRest", "()I"⟩, 2) := ⟨⟨by decide +kernel, by decide +kernel⟩, List.mem_of_getElem? (i := 236) (by decide +kernel), List.mem_of_getElem? (i := 695) (by decide +kernel), List.mem_of_getElem? (i := 696) (by decide +kernel)⟩
theorem lw_p66 : lw_okq (⟨"ErrataColumn$Odds", "ofTruth", "(LErrataColumn$Sheet;III)I"⟩, 3) := ⟨⟨by decide +kernel, by decide +kernel⟩, List.mem_of_getElem? (i := 249) (by decide +kernel), List.mem_of_getElem? (i := 703) (by decide +kernel), List.mem_of_getElem? (i := 704) (by decide +kernel)⟩
theorem lw_p67 : lw_okq (⟨"ErrataColumn$Odds", "weighCompositors", "(LErrataColumn$Sheet;)V"⟩, 3) := ⟨⟨by decide +kernel, by decide +kernel⟩, List.mem_of_getElem? (i := 249) (by decide +kernel), List.mem_of_getElem? (i := 728) (by decide +kernel), List.mem_of_getElem? (i := 729) (by decide +kernel)⟩
theorem lw_p68 : lw_okq (⟨"ErrataColumn$Odds", "gainInOrders", "(I)I"⟩, 3) := ⟨⟨by decide +kernel, by decide +kernel⟩, List.mem_of_getElem? (i := 249) (by decide +kernel), List.mem_of_getElem? (i := 739) (by decide +kernel), List.mem_of_getElem? (i := 740) (by decide +kernel)⟩
theorem lw_p69 : lw_okq (⟨"ErrataColumn$Odds", "mostRightOf", "(I)I"⟩, 3) := ⟨⟨by decide +kernel, by decide +kernel⟩, List.mem_of_getElem? (i := 249) (by decide +kernel), List.mem_of_getElem? (i := 749) (by decide +kernel), List.mem_of_getElem? (i := 750) (by decide +kernel)⟩
theorem lw_p70 : lw_okq (⟨"ErrataColumn$Odds", "orders", "()I"⟩, 3) := ⟨⟨by decide +kernel, by decide +kernel⟩, List.mem_of_getElem? (i := 249) (by decide +kernel), List.mem_of_getElem? (i := 753) (by decide +kernel), List.mem_of_getElem? (i := 754) (by decide +kernel)⟩
theorem lw_p71 : lw_okq (⟨"ErrataColumnModel", "readPaper", "()I"⟩, 34) := ⟨⟨by decide +kernel, by decide +kernel⟩, List.mem_of_getElem? (i := 779) (by decide +kernel), List.mem_of_getElem? (i := 904) (by decide +kernel), List.mem_of_getElem? (i := 905) (by decide +kernel)⟩
theorem lw_p72 : lw_okq (⟨"ErrataColumnModel", "readNames", "()Z"⟩, 34) := ⟨⟨by decide +kernel, by decide +kernel⟩, List.mem_of_getElem? (i := 779) (by decide +kernel), List.mem_of_getElem? (i := 908) (by decide +kernel), List.mem_of_getElem? (i := 909) (by decide +kernel)⟩
theorem lw_p73 : lw_okq (⟨"ErrataColumnModel", "isLetter", "()Z"⟩, 34) := ⟨⟨by decide +kernel, by decide +kernel⟩, List.mem_of_getElem? (i := 779) (by decide +kernel), List.mem_of_getElem? (i := 912) (by decide +kernel), List.mem_of_getElem? (i := 913) (by decide +kernel)⟩
theorem lw_p74 : lw_okq (⟨"ErrataColumnModel", "readPart", "()Z"⟩, 34) := ⟨⟨by decide +kernel, by decide +kernel⟩, List.mem_of_getElem? (i := 779) (by decide +kernel), List.mem_of_getElem? (i := 917) (by decide +kernel), List.mem_of_getElem? (i := 918) (by decide +kernel)⟩
theorem lw_p75 : lw_okq (⟨"ErrataColumnModel", "figure", "(II)I"⟩, 34) := ⟨⟨by decide +kernel, by decide +kernel⟩, List.mem_of_getElem? (i := 779) (by decide +kernel), List.mem_of_getElem? (i := 921) (by decide +kernel), List.mem_of_getElem? (i := 922) (by decide +kernel)⟩
theorem lw_p76 : lw_okq (⟨"ErrataColumnModel", "doesRead", "([II)Z"⟩, 34) := ⟨⟨by decide +kernel, by decide +kernel⟩, List.mem_of_getElem? (i := 779) (by decide +kernel), List.mem_of_getElem? (i := 933) (by decide +kernel), List.mem_of_getElem? (i := 934) (by decide +kernel)⟩
theorem lw_p77 : lw_okq (⟨"ErrataColumnModel", "told", "(I)I"⟩, 34) := ⟨⟨by decide +kernel, by decide +kernel⟩, List.mem_of_getElem? (i := 779) (by decide +kernel), List.mem_of_getElem? (i := 937) (by decide +kernel), List.mem_of_getElem? (i := 938) (by decide +kernel)⟩
theorem lw_p78 : lw_okq (⟨"ErrataColumnModel", "letterOf", "(II)I"⟩, 34) := ⟨⟨by decide +kernel, by decide +kernel⟩, List.mem_of_getElem? (i := 779) (by decide +kernel), List.mem_of_getElem? (i := 941) (by decide +kernel), List.mem_of_getElem? (i := 942) (by decide +kernel)⟩
theorem lw_p79 : lw_okq (⟨"ErrataColumnModel", "rightOf", "(I)I"⟩, 34) := ⟨⟨by decide +kernel, by decide +kernel⟩, List.mem_of_getElem? (i := 779) (by decide +kernel), List.mem_of_getElem? (i := 948) (by decide +kernel), List.mem_of_getElem? (i := 949) (by decide +kernel)⟩
def lw_privs_5 : List (MethodName × Nat) := [(⟨"ErrataColumn$Editors", "rightBy", "(II)I"⟩, 2), (⟨"ErrataColumn$Editors", "leastRest", "()I"⟩, 2), (⟨"ErrataColumn$Odds", "ofTruth", "(LErrataColumn$Sheet;III)I"⟩, 3), (⟨"ErrataColumn$Odds", "weighCompositors", "(LErrataColumn$Sheet;)V"⟩, 3), (⟨"ErrataColumn$Odds", "gainInOrders", "(I)I"⟩, 3), (⟨"ErrataColumn$Odds", "mostRightOf", "(I)I"⟩, 3), (⟨"ErrataColumn$Odds", "orders", "()I"⟩, 3), (⟨"ErrataColumnModel", "readPaper", "()I"⟩, 34), (⟨"ErrataColumnModel", "readNames", "()Z"⟩, 34), (⟨"ErrataColumnModel", "isLetter", "()Z"⟩, 34), (⟨"ErrataColumnModel", "readPart", "()Z"⟩, 34), (⟨"ErrataColumnModel", "figure", "(II)I"⟩, 34), (⟨"ErrataColumnModel", "doesRead", "([II)Z"⟩, 34), (⟨"ErrataColumnModel", "told", "(I)I"⟩, 34), (⟨"ErrataColumnModel", "letterOf", "(II)I"⟩, 34), (⟨"ErrataColumnModel", "rightOf", "(I)I"⟩, 34)]
theorem lw_r5 : ∀ q ∈ lw_privs_5, lw_okq q := List.forall_mem_cons.mpr ⟨lw_p64, List.forall_mem_cons.mpr ⟨lw_p65, List.forall_mem_cons.mpr ⟨lw_p66, List.forall_mem_cons.mpr ⟨lw_p67, List.forall_mem_cons.mpr ⟨lw_p68, List.forall_mem_cons.mpr ⟨lw_p69, List.forall_mem_cons.mpr ⟨lw_p70, List.forall_mem_cons.mpr ⟨lw_p71, List.forall_mem_cons.mpr ⟨lw_p72, List.forall_mem_cons.mpr ⟨lw_p73, List.forall_mem_cons.mpr ⟨lw_p74, List.forall_mem_cons.mpr ⟨lw_p75, List.forall_mem_cons.mpr ⟨lw_p76, List.forall_mem_cons.mpr ⟨lw_p77, List.forall_mem_cons.mpr ⟨lw_p78, List.forall_mem_cons.mpr ⟨lw_p79, fun _ h => absurd h List.not_mem_nil⟩⟩⟩⟩⟩⟩⟩⟩⟩⟩⟩⟩⟩⟩⟩⟩
theorem lw_p80 : lw_okq (⟨"ErrataColumnModel", "noCompositor", "(I)Z"⟩, 34) := ⟨⟨by decide +kernel, by decide +kernel⟩, List.mem_of_getElem? (i := 779) (by decide +kernel), List.mem_of_getElem? (i := 956) (by decide +kernel), List.mem_of_getElem? (i := 957) (by decide +kernel)⟩
theorem lw_p81 : lw_okq (⟨"ErrataColumnModel", "noReader", "(I)Z"⟩, 34) := ⟨⟨by decide +kernel, by decide +kernel⟩, List.mem_of_getElem? (i := 779) (by decide +kernel), List.mem_of_getElem? (i := 964) (by decide +kernel), List.mem_of_getElem? (i := 965) (by decide +kernel)⟩
theorem lw_p82 : lw_okq (⟨"ErrataColumnModel", "noPlace", "(I)Z"⟩, 34) := ⟨⟨by decide +kernel, by decide +kernel⟩, List.mem_of_getElem? (i := 779) (by decide +kernel), List.mem_of_getElem? (i := 972) (by decide +kernel), List.mem_of_getElem? (i := 973) (by decide +kernel)⟩
theorem lw_p83 : lw_okq (⟨"ErrataColumnModel", "note", "()V"⟩, 34) := ⟨⟨by decide +kernel, by decide +kernel⟩, List.mem_of_getElem? (i := 779) (by decide +kernel), List.mem_of_getElem? (i := 979) (by decide +kernel), List.mem_of_getElem? (i := 980) (by decide +kernel)⟩
theorem lw_p84 : lw_okq (⟨"ErrataColumnModel", "goPrint", "([IIII)V"⟩, 34) := ⟨⟨by decide +kernel, by decide +kernel⟩, List.mem_of_getElem? (i := 779) (by decide +kernel), List.mem_of_getElem? (i := 983) (by decide +kernel), List.mem_of_getElem? (i := 984) (by decide +kernel)⟩
theorem lw_p85 : lw_okq (⟨"ErrataColumnModel", "notice", "(IIII)I"⟩, 34) := ⟨⟨by decide +kernel, by decide +kernel⟩, List.mem_of_getElem? (i := 779) (by decide +kernel), List.mem_of_getElem? (i := 987) (by decide +kernel), List.mem_of_getElem? (i := 988) (by decide +kernel)⟩
theorem lw_p86 : lw_okq (⟨"ErrataColumnModel", "put", "(III)I"⟩, 34) := ⟨⟨by decide +kernel, by decide +kernel⟩, List.mem_of_getElem? (i := 779) (by decide +kernel), List.mem_of_getElem? (i := 991) (by decide +kernel), List.mem_of_getElem? (i := 992) (by decide +kernel)⟩
theorem lw_p87 : lw_okq (⟨"ErrataColumnModel", "nameOf", "(I)I"⟩, 34) := ⟨⟨by decide +kernel, by decide +kernel⟩, List.mem_of_getElem? (i := 779) (by decide +kernel), List.mem_of_getElem? (i := 1015) (by decide +kernel), List.mem_of_getElem? (i := 1016) (by decide +kernel)⟩
theorem lw_p88 : lw_okq (⟨"ErrataColumnModel", "noRow", "(IIJ)Z"⟩, 34) := ⟨⟨by decide +kernel, by decide +kernel⟩, List.mem_of_getElem? (i := 779) (by decide +kernel), List.mem_of_getElem? (i := 1019) (by decide +kernel), List.mem_of_getElem? (i := 1020) (by decide +kernel)⟩
theorem lw_p89 : lw_okq (⟨"ErrataColumnModel", "noNotice", "(I)Z"⟩, 34) := ⟨⟨by decide +kernel, by decide +kernel⟩, List.mem_of_getElem? (i := 779) (by decide +kernel), List.mem_of_getElem? (i := 1030) (by decide +kernel), List.mem_of_getElem? (i := 1031) (by decide +kernel)⟩
theorem lw_p90 : lw_okq (⟨"ErrataColumnModel", "afterRow", "(IIJ)I"⟩, 34) := ⟨⟨by decide +kernel, by decide +kernel⟩, List.mem_of_getElem? (i := 779) (by decide +kernel), List.mem_of_getElem? (i := 1034) (by decide +kernel), List.mem_of_getElem? (i := 1035) (by decide +kernel)⟩
theorem lw_p91 : lw_okq (⟨"ErrataColumnModel", "noticed", "(II)I"⟩, 34) := ⟨⟨by decide +kernel, by decide +kernel⟩, List.mem_of_getElem? (i := 779) (by decide +kernel), List.mem_of_getElem? (i := 1038) (by decide +kernel), List.mem_of_getElem? (i := 1039) (by decide +kernel)⟩
theorem lw_p92 : lw_okq (⟨"ErrataColumnModel", "findRow", "(Z)V"⟩, 34) := ⟨⟨by decide +kernel, by decide +kernel⟩, List.mem_of_getElem? (i := 779) (by decide +kernel), List.mem_of_getElem? (i := 1046) (by decide +kernel), List.mem_of_getElem? (i := 1047) (by decide +kernel)⟩
theorem lw_p93 : lw_okq (⟨"ErrataColumnModel", "rights", "(IIZ)Z"⟩, 34) := ⟨⟨by decide +kernel, by decide +kernel⟩, List.mem_of_getElem? (i := 779) (by decide +kernel), List.mem_of_getElem? (i := 1051) (by decide +kernel), List.mem_of_getElem? (i := 1052) (by decide +kernel)⟩
theorem lw_p94 : lw_okq (⟨"ErrataColumnModel", "begin", "()V"⟩, 34) := ⟨⟨by decide +kernel, by decide +kernel⟩, List.mem_of_getElem? (i := 779) (by decide +kernel), List.mem_of_getElem? (i := 1055) (by decide +kernel), List.mem_of_getElem? (i := 1056) (by decide +kernel)⟩
theorem lw_p95 : lw_okq (⟨"ErrataColumnModel", "isAllRight", "()Z"⟩, 34) := ⟨⟨by decide +kernel, by decide +kernel⟩, List.mem_of_getElem? (i := 779) (by decide +kernel), List.mem_of_getElem? (i := 1059) (by decide +kernel), List.mem_of_getElem? (i := 1060) (by decide +kernel)⟩
def lw_privs_6 : List (MethodName × Nat) := [(⟨"ErrataColumnModel", "noCompositor", "(I)Z"⟩, 34), (⟨"ErrataColumnModel", "noReader", "(I)Z"⟩, 34), (⟨"ErrataColumnModel", "noPlace", "(I)Z"⟩, 34), (⟨"ErrataColumnModel", "note", "()V"⟩, 34), (⟨"ErrataColumnModel", "goPrint", "([IIII)V"⟩, 34), (⟨"ErrataColumnModel", "notice", "(IIII)I"⟩, 34), (⟨"ErrataColumnModel", "put", "(III)I"⟩, 34), (⟨"ErrataColumnModel", "nameOf", "(I)I"⟩, 34), (⟨"ErrataColumnModel", "noRow", "(IIJ)Z"⟩, 34), (⟨"ErrataColumnModel", "noNotice", "(I)Z"⟩, 34), (⟨"ErrataColumnModel", "afterRow", "(IIJ)I"⟩, 34), (⟨"ErrataColumnModel", "noticed", "(II)I"⟩, 34), (⟨"ErrataColumnModel", "findRow", "(Z)V"⟩, 34), (⟨"ErrataColumnModel", "rights", "(IIZ)Z"⟩, 34), (⟨"ErrataColumnModel", "begin", "()V"⟩, 34), (⟨"ErrataColumnModel", "isAllRight", "()Z"⟩, 34)]
theorem lw_r6 : ∀ q ∈ lw_privs_6, lw_okq q := List.forall_mem_cons.mpr ⟨lw_p80, List.forall_mem_cons.mpr ⟨lw_p81, List.forall_mem_cons.mpr ⟨lw_p82, List.forall_mem_cons.mpr ⟨lw_p83, List.forall_mem_cons.mpr ⟨lw_p84, List.forall_mem_cons.mpr ⟨lw_p85, List.forall_mem_cons.mpr ⟨lw_p86, List.forall_mem_cons.mpr ⟨lw_p87, List.forall_mem_cons.mpr ⟨lw_p88, List.forall_mem_cons.mpr ⟨lw_p89, List.forall_mem_cons.mpr ⟨lw_p90, List.forall_mem_cons.mpr ⟨lw_p91, List.forall_mem_cons.mpr ⟨lw_p92, List.forall_mem_cons.mpr ⟨lw_p93, List.forall_mem_cons.mpr ⟨lw_p94, List.forall_mem_cons.mpr ⟨lw_p95, fun _ h => absurd h List.not_mem_nil⟩⟩⟩⟩⟩⟩⟩⟩⟩⟩⟩⟩⟩⟩⟩⟩
theorem lw_p96 : lw_okq (⟨"ErrataColumnModel", "findFirst", "(IJ)V"⟩, 34) := ⟨⟨by decide +kernel, by decide +kernel⟩, List.mem_of_getElem? (i := 779) (by decide +kernel), List.mem_of_getElem? (i := 1076) (by decide +kernel), List.mem_of_getElem? (i := 1077) (by decide +kernel)⟩
theorem lw_p97 : lw_okq (⟨"ErrataColumnModel", "names", "()I"⟩, 34) := ⟨⟨by decide +kernel, by decide +kernel⟩, List.mem_of_getElem? (i := 779) (by decide +kernel), List.mem_of_getElem? (i := 1080) (by decide +kernel), List.mem_of_getElem? (i := 1081) (by decide +kernel)⟩
theorem lw_p98 : lw_okq (⟨"ErrataColumnModel", "layCode", "(I)V"⟩, 34) := ⟨⟨by decide +kernel, by decide +kernel⟩, List.mem_of_getElem? (i := 779) (by decide +kernel), List.mem_of_getElem? (i := 1093) (by decide +kernel), List.mem_of_getElem? (i := 1094) (by decide +kernel)⟩
theorem lw_p99 : lw_okq (⟨"ErrataColumnModel", "unlike", "(II)I"⟩, 34) := ⟨⟨by decide +kernel, by decide +kernel⟩, List.mem_of_getElem? (i := 779) (by decide +kernel), List.mem_of_getElem? (i := 1097) (by decide +kernel), List.mem_of_getElem? (i := 1098) (by decide +kernel)⟩
theorem lw_p100 : lw_okq (⟨"ErrataColumnModel", "rightBy", "(IIIIII)I"⟩, 34) := ⟨⟨by decide +kernel, by decide +kernel⟩, List.mem_of_getElem? (i := 779) (by decide +kernel), List.mem_of_getElem? (i := 1109) (by decide +kernel), List.mem_of_getElem? (i := 1110) (by decide +kernel)⟩
theorem lw_p101 : lw_okq (⟨"ErrataColumnModel", "wrongOf", "(I)I"⟩, 34) := ⟨⟨by decide +kernel, by decide +kernel⟩, List.mem_of_getElem? (i := 779) (by decide +kernel), List.mem_of_getElem? (i := 1122) (by decide +kernel), List.mem_of_getElem? (i := 1123) (by decide +kernel)⟩
theorem lw_p102 : lw_okq (⟨"ErrataColumnModel", "mostRight", "(I)I"⟩, 34) := ⟨⟨by decide +kernel, by decide +kernel⟩, List.mem_of_getElem? (i := 779) (by decide +kernel), List.mem_of_getElem? (i := 1136) (by decide +kernel), List.mem_of_getElem? (i := 1137) (by decide +kernel)⟩
def lw_privs_7 : List (MethodName × Nat) := [(⟨"ErrataColumnModel", "findFirst", "(IJ)V"⟩, 34), (⟨"ErrataColumnModel", "names", "()I"⟩, 34), (⟨"ErrataColumnModel", "layCode", "(I)V"⟩, 34), (⟨"ErrataColumnModel", "unlike", "(II)I"⟩, 34), (⟨"ErrataColumnModel", "rightBy", "(IIIIII)I"⟩, 34), (⟨"ErrataColumnModel", "wrongOf", "(I)I"⟩, 34), (⟨"ErrataColumnModel", "mostRight", "(I)I"⟩, 34)]
theorem lw_r7 : ∀ q ∈ lw_privs_7, lw_okq q := List.forall_mem_cons.mpr ⟨lw_p96, List.forall_mem_cons.mpr ⟨lw_p97, List.forall_mem_cons.mpr ⟨lw_p98, List.forall_mem_cons.mpr ⟨lw_p99, List.forall_mem_cons.mpr ⟨lw_p100, List.forall_mem_cons.mpr ⟨lw_p101, List.forall_mem_cons.mpr ⟨lw_p102, fun _ h => absurd h List.not_mem_nil⟩⟩⟩⟩⟩⟩⟩
def lw_privs : List (MethodName × Nat) := lw_privs_1 ++ (lw_privs_2 ++ (lw_privs_3 ++ (lw_privs_4 ++ (lw_privs_5 ++ (lw_privs_6 ++ (lw_privs_7))))))
def lw_tbl : List Cond := k2_sels lw_privs ++ tables_1
theorem lw_privs_ok : ∀ q ∈ lw_privs, lw_okq q := by
  show ∀ q ∈ lw_privs_1 ++ (lw_privs_2 ++ (lw_privs_3 ++ (lw_privs_4 ++ (lw_privs_5 ++ (lw_privs_6 ++ (lw_privs_7)))))), lw_okq q
  exact List.forall_mem_append.mpr ⟨lw_r1, List.forall_mem_append.mpr ⟨lw_r2, List.forall_mem_append.mpr ⟨lw_r3, List.forall_mem_append.mpr ⟨lw_r4, List.forall_mem_append.mpr ⟨lw_r5, List.forall_mem_append.mpr ⟨lw_r6, lw_r7⟩⟩⟩⟩⟩⟩
end
section
theorem goodIn_r {big : List Cond} (ws : List Cond) (ps : List Nat) (hp : ws = ps.filterMap (fun i => big[i]?)) (h : ws.all goodWord = true) : GoodIn big ws := by
  intro w hw
  have h1 := List.all_eq_true.mp h w hw
  rw [hp] at hw
  obtain ⟨i, -, hi⟩ := List.mem_filterMap.mp hw
  have hm : w ∈ big := by first | exact List.mem_of_getElem? hi | exact List.getElem?_mem hi
  exact ⟨hm, good_of_word h1⟩
theorem goodIn_app {big a b : List Cond} (ha : GoodIn big a) (hb : GoodIn big b) : GoodIn big (a ++ b) := fun w h => (List.mem_append.mp h).elim (ha w) (hb w)
theorem goodIn_ca {big a b : List Cond} {c : Cond} (ha : GoodIn big (c :: a)) (hb : GoodIn big b) : GoodIn big (c :: (a ++ b)) := fun w h => (List.mem_cons.mp h).elim (fun e => ha w (List.mem_cons.mpr (Or.inl e))) (fun h => (List.mem_append.mp h).elim (fun h => ha w (List.mem_cons.mpr (Or.inr h))) (hb w))
theorem goodIn_sub {big ws : List Cond} (hm : ∀ w ∈ ws, w ∈ big) (h : ws.all goodWord = true) : GoodIn big ws := fun w hw => ⟨hm w hw, good_of_word (List.all_eq_true.mp h w hw)⟩
def RX0 : String := "ErrataColumn$Code"
def TX0 : u_T := fun k => match k with
  | 0 => ("ErrataColumn$Code", "tooNear", "[Z", true)
  | 1 => ("ErrataColumn$Code", "slips", "[I", true)
  | 2 => ("ErrataColumn$Code", "slipCount", "I", false)
  | 3 => ("ErrataColumn$Code", "count", "I", false)
  | _ => ("ErrataColumn$Code", "wanted", "I", false)
def tyX0 : Nat → FieldType := fun k => match k with
  | 0 => .array .boolean
  | 1 => .array .int
  | 2 => .int
  | 3 => .int
  | _ => .int
abbrev wsX00 : List Cond := u_ws RX0 TX0 5
theorem nmX0 : ∀ a, a < 5 → ∀ b, b < 5 → a ≠ b → (TX0 a).2.1 ≠ (TX0 b).2.1 := by decide +kernel
theorem tyX0_ok : ∀ k, k < 5 → parseFieldDescriptor (TX0 k).2.2.1 = some (tyX0 k) := by decide +kernel
abbrev cX0_init : ByteArray := prog_2_method_1_code
def yX0_init : MethodName := ⟨RX0, "<init>", "()V"⟩
abbrev cX0_take : ByteArray := prog_2_method_2_code
def yX0_take : MethodName := ⟨RX0, "take", "(LErrataColumn$Spelling;II)V"⟩
abbrev cX0_clearNear : ByteArray := prog_2_method_3_code
def yX0_clearNear : MethodName := ⟨RX0, "clearNear", "()V"⟩
abbrev cX0_findSlips : ByteArray := prog_2_method_4_code
def yX0_findSlips : MethodName := ⟨RX0, "findSlips", "(LErrataColumn$Spelling;I)V"⟩
abbrev cX0_barAround : ByteArray := prog_2_method_5_code
def yX0_barAround : MethodName := ⟨RX0, "barAround", "(I)V"⟩
def RX1 : String := "ErrataColumn$Editors"
def TX1 : u_T := fun k => match k with
  | 0 => ("ErrataColumn$Editors", "right", "[I", true)
  | _ => ("ErrataColumn$Editors", "choices", "I", false)
def tyX1 : Nat → FieldType := fun k => match k with
  | 0 => .array .int
  | _ => .int
abbrev wsX10 : List Cond := u_ws RX1 TX1 2
theorem nmX1 : ∀ a, a < 2 → ∀ b, b < 2 → a ≠ b → (TX1 a).2.1 ≠ (TX1 b).2.1 := by decide +kernel
theorem tyX1_ok : ∀ k, k < 2 → parseFieldDescriptor (TX1 k).2.2.1 = some (tyX1 k) := by decide +kernel
abbrev cX1_init : ByteArray := prog_3_method_1_code
def yX1_init : MethodName := ⟨RX1, "<init>", "()V"⟩
abbrev cX1_look : ByteArray := prog_3_method_2_code
def yX1_look : MethodName := ⟨RX1, "look", "(LErrataColumn$Sheet;IIII)V"⟩
abbrev cX1_rightBy : ByteArray := prog_3_method_3_code
def yX1_rightBy : MethodName := ⟨RX1, "rightBy", "(II)I"⟩
abbrev cX1_isAtRest : ByteArray := prog_3_method_4_code
def yX1_isAtRest : MethodName := ⟨RX1, "isAtRest", "(II)Z"⟩
abbrev cX1_restsInAll : ByteArray := prog_3_method_5_code
def yX1_restsInAll : MethodName := ⟨RX1, "restsInAll", "()I"⟩
abbrev cX1_leastRest : ByteArray := prog_3_method_6_code
def yX1_leastRest : MethodName := ⟨RX1, "leastRest", "()I"⟩
def RX2 : String := "ErrataColumn$Odds"
def TX2 : u_T := fun k => match k with
  | 0 => ("ErrataColumn$Odds", "bests", "[I", true)
  | 1 => ("ErrataColumn$Odds", "compositors", "I", false)
  | _ => ("ErrataColumn$Odds", "rightByNone", "I", false)
def tyX2 : Nat → FieldType := fun k => match k with
  | 0 => .array .int
  | 1 => .int
  | _ => .int
abbrev wsX20 : List Cond := u_ws RX2 TX2 3
theorem nmX2 : ∀ a, a < 3 → ∀ b, b < 3 → a ≠ b → (TX2 a).2.1 ≠ (TX2 b).2.1 := by decide +kernel
theorem tyX2_ok : ∀ k, k < 3 → parseFieldDescriptor (TX2 k).2.2.1 = some (tyX2 k) := by decide +kernel
abbrev cX2_init : ByteArray := prog_4_method_1_code
def yX2_init : MethodName := ⟨RX2, "<init>", "()V"⟩
abbrev cX2_tenTo : ByteArray := prog_4_method_2_code
def yX2_tenTo : MethodName := ⟨RX2, "tenTo", "(I)I"⟩
abbrev cX2_ofTruth : ByteArray := prog_4_method_3_code
def yX2_ofTruth : MethodName := ⟨RX2, "ofTruth", "(LErrataColumn$Sheet;III)I"⟩
abbrev cX2_waysToTruth : ByteArray := prog_4_method_4_code
def yX2_waysToTruth : MethodName := ⟨RX2, "waysToTruth", "(LErrataColumn$Sheet;IIII)I"⟩
abbrev cX2_leastWrong : ByteArray := prog_4_method_5_code
def yX2_leastWrong : MethodName := ⟨RX2, "leastWrong", "(LErrataColumn$Sheet;I)I"⟩
abbrev cX2_weighCompositors : ByteArray := prog_4_method_6_code
def yX2_weighCompositors : MethodName := ⟨RX2, "weighCompositors", "(LErrataColumn$Sheet;)V"⟩
abbrev cX2_mostRightBy : ByteArray := prog_4_method_7_code
def yX2_mostRightBy : MethodName := ⟨RX2, "mostRightBy", "(LErrataColumn$Sheet;I)I"⟩
abbrev cX2_mostRightOf : ByteArray := prog_4_method_8_code
def yX2_mostRightOf : MethodName := ⟨RX2, "mostRightOf", "(I)I"⟩
abbrev cX2_gainInOrders : ByteArray := prog_4_method_9_code
def yX2_gainInOrders : MethodName := ⟨RX2, "gainInOrders", "(I)I"⟩
abbrev cX2_orders : ByteArray := prog_4_method_10_code
def yX2_orders : MethodName := ⟨RX2, "orders", "()I"⟩
abbrev cX2_ordersOf : ByteArray := prog_4_method_11_code
def yX2_ordersOf : MethodName := ⟨RX2, "ordersOf", "(I)I"⟩
abbrev cX2_inLeastTerms : ByteArray := prog_4_method_12_code
def yX2_inLeastTerms : MethodName := ⟨RX2, "inLeastTerms", "(IIZ)I"⟩
def RX3 : String := "ErrataColumn$Past"
def TX3 : u_T := fun k => match k with
  | 0 => ("ErrataColumn$Past", "before", "LErrataColumn$Shelf;", true)
  | 1 => ("ErrataColumn$Past", "acts", "I", false)
  | _ => ("ErrataColumn$Past", "count", "I", false)
def tyX3 : Nat → FieldType := fun k => match k with
  | 0 => .object "ErrataColumn$Shelf"
  | 1 => .int
  | _ => .int
abbrev wsX30 : List Cond := u_ws RX3 TX3 3
theorem nmX3 : ∀ a, a < 3 → ∀ b, b < 3 → a ≠ b → (TX3 a).2.1 ≠ (TX3 b).2.1 := by decide +kernel
theorem tyX3_ok : ∀ k, k < 3 → parseFieldDescriptor (TX3 k).2.2.1 = some (tyX3 k) := by decide +kernel
abbrev cX3_init : ByteArray := prog_5_method_1_code
def yX3_init : MethodName := ⟨RX3, "<init>", "()V"⟩
abbrev cX3_note : ByteArray := prog_5_method_2_code
def yX3_note : MethodName := ⟨RX3, "note", "(LErrataColumn$Standing;)V"⟩
abbrev cX3_bringBack : ByteArray := prog_5_method_3_code
def yX3_bringBack : MethodName := ⟨RX3, "bringBack", "(LErrataColumn$Standing;)Z"⟩
abbrev cX3_forget : ByteArray := prog_5_method_4_code
def yX3_forget : MethodName := ⟨RX3, "forget", "()V"⟩
def RX4 : String := "ErrataColumn$Righting"
def TX4 : u_T := fun k => match k with
  | 0 => ("ErrataColumn$Righting", "beliefs", "[I", true)
  | 1 => ("ErrataColumn$Righting", "fewest", "I", false)
  | _ => ("ErrataColumn$Righting", "row", "I", false)
def tyX4 : Nat → FieldType := fun k => match k with
  | 0 => .array .int
  | 1 => .int
  | _ => .int
abbrev wsX40 : List Cond := u_ws RX4 TX4 3
theorem nmX4 : ∀ a, a < 3 → ∀ b, b < 3 → a ≠ b → (TX4 a).2.1 ≠ (TX4 b).2.1 := by decide +kernel
theorem tyX4_ok : ∀ k, k < 3 → parseFieldDescriptor (TX4 k).2.2.1 = some (tyX4 k) := by decide +kernel
abbrev cX4_init : ByteArray := prog_6_method_1_code
def yX4_init : MethodName := ⟨RX4, "<init>", "()V"⟩
abbrev cX4_search : ByteArray := prog_6_method_2_code
def yX4_search : MethodName := ⟨RX4, "search", "(LErrataColumn$Sheet;I)V"⟩
abbrev cX4_isRighted : ByteArray := prog_6_method_3_code
def yX4_isRighted : MethodName := ⟨RX4, "isRighted", "(LErrataColumn$Sheet;I)Z"⟩
abbrev cX4_readBeliefs : ByteArray := prog_6_method_4_code
def yX4_readBeliefs : MethodName := ⟨RX4, "readBeliefs", "(LErrataColumn$Sheet;I)V"⟩
abbrev cX4_twoNotices : ByteArray := prog_6_method_5_code
def yX4_twoNotices : MethodName := ⟨RX4, "twoNotices", "(LErrataColumn$Sheet;I)I"⟩
abbrev cX4_readAhead : ByteArray := prog_6_method_6_code
def yX4_readAhead : MethodName := ⟨RX4, "readAhead", "(LErrataColumn$Sheet;IIII)V"⟩
abbrev cX4_lastNotice : ByteArray := prog_6_method_7_code
def yX4_lastNotice : MethodName := ⟨RX4, "lastNotice", "(LErrataColumn$Sheet;III)I"⟩
abbrev cX4_rightsBeliefs : ByteArray := prog_6_method_8_code
def yX4_rightsBeliefs : MethodName := ⟨RX4, "rightsBeliefs", "(LErrataColumn$Sheet;IIIII)Z"⟩
def RX5 : String := "ErrataColumn$Row"
def TX5 : u_T := fun k => match k with
  | 0 => ("ErrataColumn$Row", "notices", "[I", true)
  | _ => ("ErrataColumn$Row", "length", "I", false)
def tyX5 : Nat → FieldType := fun k => match k with
  | 0 => .array .int
  | _ => .int
abbrev wsX50 : List Cond := u_ws RX5 TX5 2
theorem nmX5 : ∀ a, a < 2 → ∀ b, b < 2 → a ≠ b → (TX5 a).2.1 ≠ (TX5 b).2.1 := by decide +kernel
theorem tyX5_ok : ∀ k, k < 2 → parseFieldDescriptor (TX5 k).2.2.1 = some (tyX5 k) := by decide +kernel
abbrev cX5_init : ByteArray := prog_7_method_1_code
def yX5_init : MethodName := ⟨RX5, "<init>", "()V"⟩
abbrev cX5_read : ByteArray := prog_7_method_2_code
def yX5_read : MethodName := ⟨RX5, "read", "(LErrataColumn$Sheet;IIJ)Z"⟩
abbrev cX5_doneOn : ByteArray := prog_7_method_3_code
def yX5_doneOn : MethodName := ⟨RX5, "doneOn", "(LErrataColumn$Sheet;I)I"⟩
abbrev cX5_nameOnRing : ByteArray := prog_7_method_4_code
def yX5_nameOnRing : MethodName := ⟨RX5, "nameOnRing", "(LErrataColumn$Sheet;)I"⟩
abbrev cX5_roundsToRing : ByteArray := prog_7_method_5_code
def yX5_roundsToRing : MethodName := ⟨RX5, "roundsToRing", "(LErrataColumn$Sheet;I)I"⟩
abbrev cX5_roundsOfRing : ByteArray := prog_7_method_6_code
def yX5_roundsOfRing : MethodName := ⟨RX5, "roundsOfRing", "(LErrataColumn$Sheet;I)I"⟩
def RX6 : String := "ErrataColumn$Sheet"
def TX6 : u_T := fun k => match k with
  | 0 => ("ErrataColumn$Sheet", "spelling", "LErrataColumn$Spelling;", true)
  | 1 => ("ErrataColumn$Sheet", "now", "LErrataColumn$Standing;", true)
  | 2 => ("ErrataColumn$Sheet", "periods", "[I", true)
  | 3 => ("ErrataColumn$Sheet", "lefts", "[I", true)
  | 4 => ("ErrataColumn$Sheet", "compositors", "I", false)
  | 5 => ("ErrataColumn$Sheet", "readers", "I", false)
  | _ => ("ErrataColumn$Sheet", "truth", "I", false)
def tyX6 : Nat → FieldType := fun k => match k with
  | 0 => .object "ErrataColumn$Spelling"
  | 1 => .object "ErrataColumn$Standing"
  | 2 => .array .int
  | 3 => .array .int
  | 4 => .int
  | 5 => .int
  | _ => .int
abbrev wsX60 : List Cond := u_ws RX6 TX6 7
theorem nmX6 : ∀ a, a < 7 → ∀ b, b < 7 → a ≠ b → (TX6 a).2.1 ≠ (TX6 b).2.1 := by decide +kernel
theorem tyX6_ok : ∀ k, k < 7 → parseFieldDescriptor (TX6 k).2.2.1 = some (tyX6 k) := by decide +kernel
abbrev cX6_init : ByteArray := prog_8_method_1_code
def yX6_init : MethodName := ⟨RX6, "<init>", "()V"⟩
abbrev cX6_makeAnew : ByteArray := prog_8_method_2_code
def yX6_makeAnew : MethodName := ⟨RX6, "makeAnew", "(LErrataColumn$Text;)V"⟩
abbrev cX6_hasCompositor : ByteArray := prog_8_method_3_code
def yX6_hasCompositor : MethodName := ⟨RX6, "hasCompositor", "(I)Z"⟩
abbrev cX6_hasReader : ByteArray := prog_8_method_4_code
def yX6_hasReader : MethodName := ⟨RX6, "hasReader", "(I)Z"⟩
abbrev cX6_isNoticeFor : ByteArray := prog_8_method_5_code
def yX6_isNoticeFor : MethodName := ⟨RX6, "isNoticeFor", "(II)Z"⟩
abbrev cX6_periodOf : ByteArray := prog_8_method_6_code
def yX6_periodOf : MethodName := ⟨RX6, "periodOf", "(I)I"⟩
abbrev cX6_leftOf : ByteArray := prog_8_method_7_code
def yX6_leftOf : MethodName := ⟨RX6, "leftOf", "(I)I"⟩
abbrev cX6_readsOn : ByteArray := prog_8_method_8_code
def yX6_readsOn : MethodName := ⟨RX6, "readsOn", "(II)Z"⟩
abbrev cX6_rightOf : ByteArray := prog_8_method_9_code
def yX6_rightOf : MethodName := ⟨RX6, "rightOf", "(I)I"⟩
abbrev cX6_readingToday : ByteArray := prog_8_method_10_code
def yX6_readingToday : MethodName := ⟨RX6, "readingToday", "()I"⟩
abbrev cX6_believingTruth : ByteArray := prog_8_method_11_code
def yX6_believingTruth : MethodName := ⟨RX6, "believingTruth", "()I"⟩
abbrev cX6_noticed : ByteArray := prog_8_method_12_code
def yX6_noticed : MethodName := ⟨RX6, "noticed", "(IIII)I"⟩
abbrev cX6_printNotice : ByteArray := prog_8_method_13_code
def yX6_printNotice : MethodName := ⟨RX6, "printNotice", "(III)V"⟩
def RX7 : String := "ErrataColumn$Shelf"
def TX7 : u_T := fun k => match k with
  | _ => ("ErrataColumn$Shelf", "copies", "[I", true)
def tyX7 : Nat → FieldType := fun k => match k with
  | _ => .array .int
abbrev wsX70 : List Cond := u_ws RX7 TX7 1
theorem nmX7 : ∀ a, a < 1 → ∀ b, b < 1 → a ≠ b → (TX7 a).2.1 ≠ (TX7 b).2.1 := by decide +kernel
theorem tyX7_ok : ∀ k, k < 1 → parseFieldDescriptor (TX7 k).2.2.1 = some (tyX7 k) := by decide +kernel
abbrev cX7_init : ByteArray := prog_9_method_1_code
def yX7_init : MethodName := ⟨RX7, "<init>", "(I)V"⟩
abbrev cX7_holds : ByteArray := prog_9_method_2_code
def yX7_holds : MethodName := ⟨RX7, "holds", "(I)Z"⟩
abbrev cX7_put : ByteArray := prog_9_method_3_code
def yX7_put : MethodName := ⟨RX7, "put", "(ILErrataColumn$Standing;)V"⟩
abbrev cX7_fetch : ByteArray := prog_9_method_4_code
def yX7_fetch : MethodName := ⟨RX7, "fetch", "(ILErrataColumn$Standing;)V"⟩
def RX8 : String := "ErrataColumn$Spelling"
def TX8 : u_T := fun k => match k with
  | _ => ("ErrataColumn$Spelling", "length", "I", false)
def tyX8 : Nat → FieldType := fun k => match k with
  | _ => .int
abbrev wsX80 : List Cond := u_ws RX8 TX8 1
theorem nmX8 : ∀ a, a < 1 → ∀ b, b < 1 → a ≠ b → (TX8 a).2.1 ≠ (TX8 b).2.1 := by decide +kernel
theorem tyX8_ok : ∀ k, k < 1 → parseFieldDescriptor (TX8 k).2.2.1 = some (tyX8 k) := by decide +kernel
abbrev cX8_init : ByteArray := prog_10_method_1_code
def yX8_init : MethodName := ⟨RX8, "<init>", "()V"⟩
abbrev cX8_names : ByteArray := prog_10_method_2_code
def yX8_names : MethodName := ⟨RX8, "names", "()I"⟩
abbrev cX8_hasPlace : ByteArray := prog_10_method_3_code
def yX8_hasPlace : MethodName := ⟨RX8, "hasPlace", "(I)Z"⟩
abbrev cX8_nextPlace : ByteArray := prog_10_method_4_code
def yX8_nextPlace : MethodName := ⟨RX8, "nextPlace", "(I)I"⟩
abbrev cX8_letterAt : ByteArray := prog_10_method_5_code
def yX8_letterAt : MethodName := ⟨RX8, "letterAt", "(II)I"⟩
abbrev cX8_withLetter : ByteArray := prog_10_method_6_code
def yX8_withLetter : MethodName := ⟨RX8, "withLetter", "(III)I"⟩
abbrev cX8_noticed : ByteArray := prog_10_method_7_code
def yX8_noticed : MethodName := ⟨RX8, "noticed", "(IIII)I"⟩
abbrev cX8_placesUnlike : ByteArray := prog_10_method_8_code
def yX8_placesUnlike : MethodName := ⟨RX8, "placesUnlike", "(I)I"⟩
abbrev cX8_placesAlike : ByteArray := prog_10_method_9_code
def yX8_placesAlike : MethodName := ⟨RX8, "placesAlike", "(I)I"⟩
abbrev cX8_told : ByteArray := prog_10_method_10_code
def yX8_told : MethodName := ⟨RX8, "told", "(I)I"⟩
abbrev cX8_packed : ByteArray := prog_10_method_11_code
def yX8_packed : MethodName := ⟨RX8, "packed", "(I)I"⟩
def RX9 : String := "ErrataColumn$Standing"
def TX9 : u_T := fun k => match k with
  | _ => ("ErrataColumn$Standing", "cells", "[I", true)
def tyX9 : Nat → FieldType := fun k => match k with
  | _ => .array .int
abbrev wsX90 : List Cond := u_ws RX9 TX9 1
theorem nmX9 : ∀ a, a < 1 → ∀ b, b < 1 → a ≠ b → (TX9 a).2.1 ≠ (TX9 b).2.1 := by decide +kernel
theorem tyX9_ok : ∀ k, k < 1 → parseFieldDescriptor (TX9 k).2.2.1 = some (tyX9 k) := by decide +kernel
abbrev cX9_init : ByteArray := prog_11_method_1_code
def yX9_init : MethodName := ⟨RX9, "<init>", "()V"⟩
abbrev cX9_said : ByteArray := prog_11_method_2_code
def yX9_said : MethodName := ⟨RX9, "said", "()I"⟩
abbrev cX9_day : ByteArray := prog_11_method_3_code
def yX9_day : MethodName := ⟨RX9, "day", "()I"⟩
abbrev cX9_kindOf : ByteArray := prog_11_method_4_code
def yX9_kindOf : MethodName := ⟨RX9, "kindOf", "(I)I"⟩
abbrev cX9_beliefOf : ByteArray := prog_11_method_5_code
def yX9_beliefOf : MethodName := ⟨RX9, "beliefOf", "(I)I"⟩
abbrev cX9_setSaid : ByteArray := prog_11_method_6_code
def yX9_setSaid : MethodName := ⟨RX9, "setSaid", "(I)V"⟩
abbrev cX9_startDays : ByteArray := prog_11_method_7_code
def yX9_startDays : MethodName := ⟨RX9, "startDays", "()V"⟩
abbrev cX9_nextDay : ByteArray := prog_11_method_8_code
def yX9_nextDay : MethodName := ⟨RX9, "nextDay", "()V"⟩
abbrev cX9_setKind : ByteArray := prog_11_method_9_code
def yX9_setKind : MethodName := ⟨RX9, "setKind", "(II)V"⟩
abbrev cX9_setBelief : ByteArray := prog_11_method_10_code
def yX9_setBelief : MethodName := ⟨RX9, "setBelief", "(II)V"⟩
def RX10 : String := "ErrataColumn$Text"
def TX10 : u_T := fun k => match k with
  | 0 => ("ErrataColumn$Text", "bytes", "[I", true)
  | 1 => ("ErrataColumn$Text", "kinds", "[I", true)
  | 2 => ("ErrataColumn$Text", "periods", "[I", true)
  | 3 => ("ErrataColumn$Text", "lefts", "[I", true)
  | 4 => ("ErrataColumn$Text", "size", "I", false)
  | 5 => ("ErrataColumn$Text", "compositors", "I", false)
  | 6 => ("ErrataColumn$Text", "readers", "I", false)
  | 7 => ("ErrataColumn$Text", "length", "I", false)
  | 8 => ("ErrataColumn$Text", "saidLength", "I", false)
  | 9 => ("ErrataColumn$Text", "truth", "I", false)
  | 10 => ("ErrataColumn$Text", "said", "I", false)
  | _ => ("ErrataColumn$Text", "expected", "I", false)
def tyX10 : Nat → FieldType := fun k => match k with
  | 0 => .array .int
  | 1 => .array .int
  | 2 => .array .int
  | 3 => .array .int
  | 4 => .int
  | 5 => .int
  | 6 => .int
  | 7 => .int
  | 8 => .int
  | 9 => .int
  | 10 => .int
  | _ => .int
abbrev wsX100 : List Cond := u_ws RX10 TX10 12
theorem nmX10 : ∀ a, a < 12 → ∀ b, b < 12 → a ≠ b → (TX10 a).2.1 ≠ (TX10 b).2.1 := by decide +kernel
theorem tyX10_ok : ∀ k, k < 12 → parseFieldDescriptor (TX10 k).2.2.1 = some (tyX10 k) := by decide +kernel
abbrev cX10_init : ByteArray := prog_12_method_1_code
def yX10_init : MethodName := ⟨RX10, "<init>", "()V"⟩
abbrev cX10_add : ByteArray := prog_12_method_2_code
def yX10_add : MethodName := ⟨RX10, "add", "(I)Z"⟩
abbrev cX10_findFault : ByteArray := prog_12_method_3_code
def yX10_findFault : MethodName := ⟨RX10, "findFault", "()I"⟩
abbrev cX10_accepts : ByteArray := prog_12_method_4_code
def yX10_accepts : MethodName := ⟨RX10, "accepts", "(I)Z"⟩
abbrev cX10_acceptsE : ByteArray := prog_12_method_5_code
def yX10_acceptsE : MethodName := ⟨RX10, "acceptsE", "(I)Z"⟩
abbrev cX10_acceptsTruth : ByteArray := prog_12_method_6_code
def yX10_acceptsTruth : MethodName := ⟨RX10, "acceptsTruth", "(I)Z"⟩
abbrev cX10_acceptsSaid : ByteArray := prog_12_method_7_code
def yX10_acceptsSaid : MethodName := ⟨RX10, "acceptsSaid", "(I)Z"⟩
abbrev cX10_acceptsPart : ByteArray := prog_12_method_8_code
def yX10_acceptsPart : MethodName := ⟨RX10, "acceptsPart", "(I)Z"⟩
abbrev cX10_acceptsKind : ByteArray := prog_12_method_9_code
def yX10_acceptsKind : MethodName := ⟨RX10, "acceptsKind", "(I)Z"⟩
abbrev cX10_acceptsPeriod : ByteArray := prog_12_method_10_code
def yX10_acceptsPeriod : MethodName := ⟨RX10, "acceptsPeriod", "(I)Z"⟩
abbrev cX10_acceptsLeft : ByteArray := prog_12_method_11_code
def yX10_acceptsLeft : MethodName := ⟨RX10, "acceptsLeft", "(I)Z"⟩
abbrev cX10_isLetter : ByteArray := prog_12_method_12_code
def yX10_isLetter : MethodName := ⟨RX10, "isLetter", "(I)Z"⟩
def RX11 : String := "ErrataColumn"
def TX11 : u_T := fun k => match k with
  | 0 => ("ErrataColumn", "text", "LErrataColumn$Text;", true)
  | 1 => ("ErrataColumn", "sheet", "LErrataColumn$Sheet;", true)
  | 2 => ("ErrataColumn", "past", "LErrataColumn$Past;", true)
  | 3 => ("ErrataColumn", "slots", "LErrataColumn$Shelf;", true)
  | 4 => ("ErrataColumn", "notices", "LErrataColumn$Row;", true)
  | 5 => ("ErrataColumn", "righting", "LErrataColumn$Righting;", true)
  | 6 => ("ErrataColumn", "takenNames", "LErrataColumn$Code;", true)
  | 7 => ("ErrataColumn", "editors", "LErrataColumn$Editors;", true)
  | 8 => ("ErrataColumn", "odds", "LErrataColumn$Odds;", true)
  | 9 => ("ErrataColumn", "keptSlots", "I", false)
  | _ => ("ErrataColumn", "seedNow", "J", false)
def tyX11 : Nat → FieldType := fun k => match k with
  | 0 => .object "ErrataColumn$Text"
  | 1 => .object "ErrataColumn$Sheet"
  | 2 => .object "ErrataColumn$Past"
  | 3 => .object "ErrataColumn$Shelf"
  | 4 => .object "ErrataColumn$Row"
  | 5 => .object "ErrataColumn$Righting"
  | 6 => .object "ErrataColumn$Code"
  | 7 => .object "ErrataColumn$Editors"
  | 8 => .object "ErrataColumn$Odds"
  | 9 => .int
  | _ => .long
abbrev wsX110 : List Cond := u_ws RX11 TX11 11
theorem nmX11 : ∀ a, a < 11 → ∀ b, b < 11 → a ≠ b → (TX11 a).2.1 ≠ (TX11 b).2.1 := by decide +kernel
theorem tyX11_ok : ∀ k, k < 11 → parseFieldDescriptor (TX11 k).2.2.1 = some (tyX11 k) := by decide +kernel
abbrev cX11_init : ByteArray := prog_1_method_1_code
def yX11_init : MethodName := ⟨RX11, "<init>", "()V"⟩
abbrev cX11_write : ByteArray := prog_1_method_2_code
def yX11_write : MethodName := ⟨RX11, "write", "(I)I"⟩
abbrev cX11_wipe : ByteArray := prog_1_method_3_code
def yX11_wipe : MethodName := ⟨RX11, "wipe", "()I"⟩
abbrev cX11_fault : ByteArray := prog_1_method_4_code
def yX11_fault : MethodName := ⟨RX11, "fault", "()I"⟩
abbrev cX11_paper : ByteArray := prog_1_method_5_code
def yX11_paper : MethodName := ⟨RX11, "paper", "()I"⟩
abbrev cX11_about : ByteArray := prog_1_method_6_code
def yX11_about : MethodName := ⟨RX11, "about", "(I)I"⟩
abbrev cX11_kind : ByteArray := prog_1_method_7_code
def yX11_kind : MethodName := ⟨RX11, "kind", "(I)I"⟩
abbrev cX11_reader : ByteArray := prog_1_method_8_code
def yX11_reader : MethodName := ⟨RX11, "reader", "(II)I"⟩
abbrev cX11_print : ByteArray := prog_1_method_9_code
def yX11_print : MethodName := ⟨RX11, "print", "(III)I"⟩
abbrev cX11_quiet : ByteArray := prog_1_method_10_code
def yX11_quiet : MethodName := ⟨RX11, "quiet", "()I"⟩
abbrev cX11_tell : ByteArray := prog_1_method_11_code
def yX11_tell : MethodName := ⟨RX11, "tell", "(II)I"⟩
abbrev cX11_learn : ByteArray := prog_1_method_12_code
def yX11_learn : MethodName := ⟨RX11, "learn", "(II)I"⟩
abbrev cX11_undo : ByteArray := prog_1_method_13_code
def yX11_undo : MethodName := ⟨RX11, "undo", "()I"⟩
abbrev cX11_after : ByteArray := prog_1_method_14_code
def yX11_after : MethodName := ⟨RX11, "after", "(IIJ)I"⟩
abbrev cX11_righted : ByteArray := prog_1_method_15_code
def yX11_righted : MethodName := ⟨RX11, "righted", "(I)I"⟩
abbrev cX11_allRighted : ByteArray := prog_1_method_16_code
def yX11_allRighted : MethodName := ⟨RX11, "allRighted", "(I)I"⟩
abbrev cX11_ring : ByteArray := prog_1_method_17_code
def yX11_ring : MethodName := ⟨RX11, "ring", "(IJI)I"⟩
abbrev cX11_first : ByteArray := prog_1_method_18_code
def yX11_first : MethodName := ⟨RX11, "first", "(IJI)I"⟩
abbrev cX11_who : ByteArray := prog_1_method_19_code
def yX11_who : MethodName := ⟨RX11, "who", "(IIII)I"⟩
abbrev cX11_code : ByteArray := prog_1_method_20_code
def yX11_code : MethodName := ⟨RX11, "code", "(I)I"⟩
abbrev cX11_codeName : ByteArray := prog_1_method_21_code
def yX11_codeName : MethodName := ⟨RX11, "codeName", "(II)I"⟩
abbrev cX11_rests : ByteArray := prog_1_method_22_code
def yX11_rests : MethodName := ⟨RX11, "rests", "(IIIII)I"⟩
abbrev cX11_chance : ByteArray := prog_1_method_23_code
def yX11_chance : MethodName := ⟨RX11, "chance", "(IIIZ)I"⟩
abbrev cX11_share : ByteArray := prog_1_method_24_code
def yX11_share : MethodName := ⟨RX11, "share", "(IZ)I"⟩
abbrev cX11_seed : ByteArray := prog_1_method_25_code
def yX11_seed : MethodName := ⟨RX11, "seed", "(J)J"⟩
abbrev cX11_years : ByteArray := prog_1_method_26_code
def yX11_years : MethodName := ⟨RX11, "years", "(I)I"⟩
abbrev cX11_keep : ByteArray := prog_1_method_27_code
def yX11_keep : MethodName := ⟨RX11, "keep", "(I)I"⟩
abbrev cX11_again : ByteArray := prog_1_method_28_code
def yX11_again : MethodName := ⟨RX11, "again", "(I)I"⟩
def RX12 : String := "ErrataColumnModel"
def TX12 : u_T := fun k => match k with
  | 0 => ("ErrataColumnModel", "thrown", "I", false)
  | 1 => ("ErrataColumnModel", "text", "[I", true)
  | 2 => ("ErrataColumnModel", "textSize", "I", false)
  | 3 => ("ErrataColumnModel", "place", "I", false)
  | 4 => ("ErrataColumnModel", "wide", "I", false)
  | 5 => ("ErrataColumnModel", "truth", "I", false)
  | 6 => ("ErrataColumnModel", "compositors", "I", false)
  | 7 => ("ErrataColumnModel", "readers", "I", false)
  | 8 => ("ErrataColumnModel", "each", "[I", true)
  | 9 => ("ErrataColumnModel", "left", "[I", true)
  | 10 => ("ErrataColumnModel", "readWide", "I", false)
  | 11 => ("ErrataColumnModel", "readTruth", "I", false)
  | 12 => ("ErrataColumnModel", "readSaid", "I", false)
  | 13 => ("ErrataColumnModel", "readCompositors", "I", false)
  | 14 => ("ErrataColumnModel", "readReaders", "I", false)
  | 15 => ("ErrataColumnModel", "readKind", "[I", true)
  | 16 => ("ErrataColumnModel", "readEach", "[I", true)
  | 17 => ("ErrataColumnModel", "readLeft", "[I", true)
  | 18 => ("ErrataColumnModel", "page", "[I", true)
  | 19 => ("ErrataColumnModel", "trial", "[I", true)
  | 20 => ("ErrataColumnModel", "book", "[I", true)
  | 21 => ("ErrataColumnModel", "acts", "I", false)
  | 22 => ("ErrataColumnModel", "kept", "[I", true)
  | 23 => ("ErrataColumnModel", "isKept", "[Z", true)
  | 24 => ("ErrataColumnModel", "seed", "J", false)
  | 25 => ("ErrataColumnModel", "rowMany", "I", false)
  | 26 => ("ErrataColumnModel", "rowFirst", "I", false)
  | 27 => ("ErrataColumnModel", "firstMany", "I", false)
  | 28 => ("ErrataColumnModel", "firstLeast", "I", false)
  | 29 => ("ErrataColumnModel", "firstAlike", "I", false)
  | 30 => ("ErrataColumnModel", "taken", "[I", true)
  | 31 => ("ErrataColumnModel", "takenMany", "I", false)
  | 32 => ("ErrataColumnModel", "value", "[I", true)
  | _ => ("ErrataColumnModel", "round", "[I", true)
def tyX12 : Nat → FieldType := fun k => match k with
  | 0 => .int
  | 1 => .array .int
  | 2 => .int
  | 3 => .int
  | 4 => .int
  | 5 => .int
  | 6 => .int
  | 7 => .int
  | 8 => .array .int
  | 9 => .array .int
  | 10 => .int
  | 11 => .int
  | 12 => .int
  | 13 => .int
  | 14 => .int
  | 15 => .array .int
  | 16 => .array .int
  | 17 => .array .int
  | 18 => .array .int
  | 19 => .array .int
  | 20 => .array .int
  | 21 => .int
  | 22 => .array .int
  | 23 => .array .boolean
  | 24 => .long
  | 25 => .int
  | 26 => .int
  | 27 => .int
  | 28 => .int
  | 29 => .int
  | 30 => .array .int
  | 31 => .int
  | 32 => .array .int
  | _ => .array .int
abbrev wsX120 : List Cond := u_ws RX12 TX12 34
theorem nmX12 : ∀ a, a < 34 → ∀ b, b < 34 → a ≠ b → (TX12 a).2.1 ≠ (TX12 b).2.1 := by decide +kernel
theorem tyX12_ok : ∀ k, k < 34 → parseFieldDescriptor (TX12 k).2.2.1 = some (tyX12 k) := by decide +kernel
abbrev cX12_init : ByteArray := prog_14_method_1_code
def yX12_init : MethodName := ⟨RX12, "<init>", "()V"⟩
abbrev cX12_in : ByteArray := prog_14_method_3_code
def yX12_in : MethodName := ⟨RX12, "in", "(JJJ)Z"⟩
abbrev cX12_has : ByteArray := prog_14_method_4_code
def yX12_has : MethodName := ⟨RX12, "has", "(II)Z"⟩
abbrev cX12_power : ByteArray := prog_14_method_5_code
def yX12_power : MethodName := ⟨RX12, "power", "(II)I"⟩
abbrev cX12_thousand : ByteArray := prog_14_method_6_code
def yX12_thousand : MethodName := ⟨RX12, "thousand", "(I)J"⟩
abbrev cX12_noCompositor : ByteArray := prog_14_method_7_code
def yX12_noCompositor : MethodName := ⟨RX12, "noCompositor", "(I)Z"⟩
abbrev cX12_noReader : ByteArray := prog_14_method_8_code
def yX12_noReader : MethodName := ⟨RX12, "noReader", "(I)Z"⟩
abbrev cX12_noPlace : ByteArray := prog_14_method_9_code
def yX12_noPlace : MethodName := ⟨RX12, "noPlace", "(I)Z"⟩
abbrev cX12_noLetter : ByteArray := prog_14_method_10_code
def yX12_noLetter : MethodName := ⟨RX12, "noLetter", "(I)Z"⟩
abbrev cX12_write : ByteArray := prog_14_method_11_code
def yX12_write : MethodName := ⟨RX12, "write", "(I)I"⟩
abbrev cX12_wipe : ByteArray := prog_14_method_12_code
def yX12_wipe : MethodName := ⟨RX12, "wipe", "()I"⟩
abbrev cX12_figure : ByteArray := prog_14_method_13_code
def yX12_figure : MethodName := ⟨RX12, "figure", "(II)I"⟩
abbrev cX12_isLetter : ByteArray := prog_14_method_14_code
def yX12_isLetter : MethodName := ⟨RX12, "isLetter", "()Z"⟩
abbrev cX12_readNames : ByteArray := prog_14_method_15_code
def yX12_readNames : MethodName := ⟨RX12, "readNames", "()Z"⟩
abbrev cX12_readPart : ByteArray := prog_14_method_16_code
def yX12_readPart : MethodName := ⟨RX12, "readPart", "()Z"⟩
abbrev cX12_readPaper : ByteArray := prog_14_method_17_code
def yX12_readPaper : MethodName := ⟨RX12, "readPaper", "()I"⟩
abbrev cX12_fault : ByteArray := prog_14_method_18_code
def yX12_fault : MethodName := ⟨RX12, "fault", "()I"⟩
abbrev cX12_paper : ByteArray := prog_14_method_19_code
def yX12_paper : MethodName := ⟨RX12, "paper", "()I"⟩
abbrev cX12_letterOf : ByteArray := prog_14_method_20_code
def yX12_letterOf : MethodName := ⟨RX12, "letterOf", "(II)I"⟩
abbrev cX12_put : ByteArray := prog_14_method_21_code
def yX12_put : MethodName := ⟨RX12, "put", "(III)I"⟩
abbrev cX12_notice : ByteArray := prog_14_method_22_code
def yX12_notice : MethodName := ⟨RX12, "notice", "(IIII)I"⟩
abbrev cX12_rightOf : ByteArray := prog_14_method_23_code
def yX12_rightOf : MethodName := ⟨RX12, "rightOf", "(I)I"⟩
abbrev cX12_told : ByteArray := prog_14_method_24_code
def yX12_told : MethodName := ⟨RX12, "told", "(I)I"⟩
abbrev cX12_nameOf : ByteArray := prog_14_method_25_code
def yX12_nameOf : MethodName := ⟨RX12, "nameOf", "(I)I"⟩
abbrev cX12_names : ByteArray := prog_14_method_26_code
def yX12_names : MethodName := ⟨RX12, "names", "()I"⟩
abbrev cX12_doesRead : ByteArray := prog_14_method_27_code
def yX12_doesRead : MethodName := ⟨RX12, "doesRead", "([II)Z"⟩
abbrev cX12_about : ByteArray := prog_14_method_28_code
def yX12_about : MethodName := ⟨RX12, "about", "(I)I"⟩
abbrev cX12_kind : ByteArray := prog_14_method_29_code
def yX12_kind : MethodName := ⟨RX12, "kind", "(I)I"⟩
abbrev cX12_reader : ByteArray := prog_14_method_30_code
def yX12_reader : MethodName := ⟨RX12, "reader", "(II)I"⟩
abbrev cX12_note : ByteArray := prog_14_method_31_code
def yX12_note : MethodName := ⟨RX12, "note", "()V"⟩
abbrev cX12_goPrint : ByteArray := prog_14_method_32_code
def yX12_goPrint : MethodName := ⟨RX12, "goPrint", "([IIII)V"⟩
abbrev cX12_print : ByteArray := prog_14_method_33_code
def yX12_print : MethodName := ⟨RX12, "print", "(III)I"⟩
abbrev cX12_quiet : ByteArray := prog_14_method_34_code
def yX12_quiet : MethodName := ⟨RX12, "quiet", "()I"⟩
abbrev cX12_tell : ByteArray := prog_14_method_35_code
def yX12_tell : MethodName := ⟨RX12, "tell", "(II)I"⟩
abbrev cX12_learn : ByteArray := prog_14_method_36_code
def yX12_learn : MethodName := ⟨RX12, "learn", "(II)I"⟩
abbrev cX12_undo : ByteArray := prog_14_method_37_code
def yX12_undo : MethodName := ⟨RX12, "undo", "()I"⟩
abbrev cX12_noNotice : ByteArray := prog_14_method_38_code
def yX12_noNotice : MethodName := ⟨RX12, "noNotice", "(I)Z"⟩
abbrev cX12_threeOf : ByteArray := prog_14_method_39_code
def yX12_threeOf : MethodName := ⟨RX12, "threeOf", "(IJI)I"⟩
abbrev cX12_noRow : ByteArray := prog_14_method_40_code
def yX12_noRow : MethodName := ⟨RX12, "noRow", "(IIJ)Z"⟩
abbrev cX12_noticed : ByteArray := prog_14_method_41_code
def yX12_noticed : MethodName := ⟨RX12, "noticed", "(II)I"⟩
abbrev cX12_afterRow : ByteArray := prog_14_method_42_code
def yX12_afterRow : MethodName := ⟨RX12, "afterRow", "(IIJ)I"⟩
abbrev cX12_after : ByteArray := prog_14_method_43_code
def yX12_after : MethodName := ⟨RX12, "after", "(IIJ)I"⟩
abbrev cX12_begin : ByteArray := prog_14_method_44_code
def yX12_begin : MethodName := ⟨RX12, "begin", "()V"⟩
abbrev cX12_isAllRight : ByteArray := prog_14_method_45_code
def yX12_isAllRight : MethodName := ⟨RX12, "isAllRight", "()Z"⟩
abbrev cX12_rights : ByteArray := prog_14_method_46_code
def yX12_rights : MethodName := ⟨RX12, "rights", "(IIZ)Z"⟩
abbrev cX12_findRow : ByteArray := prog_14_method_47_code
def yX12_findRow : MethodName := ⟨RX12, "findRow", "(Z)V"⟩
abbrev cX12_righted : ByteArray := prog_14_method_48_code
def yX12_righted : MethodName := ⟨RX12, "righted", "(I)I"⟩
abbrev cX12_allRighted : ByteArray := prog_14_method_49_code
def yX12_allRighted : MethodName := ⟨RX12, "allRighted", "(I)I"⟩
abbrev cX12_ring : ByteArray := prog_14_method_50_code
def yX12_ring : MethodName := ⟨RX12, "ring", "(IJI)I"⟩
abbrev cX12_findFirst : ByteArray := prog_14_method_51_code
def yX12_findFirst : MethodName := ⟨RX12, "findFirst", "(IJ)V"⟩
abbrev cX12_first : ByteArray := prog_14_method_52_code
def yX12_first : MethodName := ⟨RX12, "first", "(IJI)I"⟩
abbrev cX12_who : ByteArray := prog_14_method_53_code
def yX12_who : MethodName := ⟨RX12, "who", "(IIII)I"⟩
abbrev cX12_unlike : ByteArray := prog_14_method_54_code
def yX12_unlike : MethodName := ⟨RX12, "unlike", "(II)I"⟩
abbrev cX12_layCode : ByteArray := prog_14_method_55_code
def yX12_layCode : MethodName := ⟨RX12, "layCode", "(I)V"⟩
abbrev cX12_code : ByteArray := prog_14_method_56_code
def yX12_code : MethodName := ⟨RX12, "code", "(I)I"⟩
abbrev cX12_codeName : ByteArray := prog_14_method_57_code
def yX12_codeName : MethodName := ⟨RX12, "codeName", "(II)I"⟩
abbrev cX12_rightBy : ByteArray := prog_14_method_58_code
def yX12_rightBy : MethodName := ⟨RX12, "rightBy", "(IIIIII)I"⟩
abbrev cX12_rests : ByteArray := prog_14_method_59_code
def yX12_rests : MethodName := ⟨RX12, "rests", "(IIIII)I"⟩
abbrev cX12_divisor : ByteArray := prog_14_method_60_code
def yX12_divisor : MethodName := ⟨RX12, "divisor", "(II)I"⟩
abbrev cX12_fraction : ByteArray := prog_14_method_61_code
def yX12_fraction : MethodName := ⟨RX12, "fraction", "(IIZ)I"⟩
abbrev cX12_wrongOf : ByteArray := prog_14_method_62_code
def yX12_wrongOf : MethodName := ⟨RX12, "wrongOf", "(I)I"⟩
abbrev cX12_chance : ByteArray := prog_14_method_63_code
def yX12_chance : MethodName := ⟨RX12, "chance", "(IIIZ)I"⟩
abbrev cX12_mostRight : ByteArray := prog_14_method_64_code
def yX12_mostRight : MethodName := ⟨RX12, "mostRight", "(I)I"⟩
abbrev cX12_share : ByteArray := prog_14_method_65_code
def yX12_share : MethodName := ⟨RX12, "share", "(IZ)I"⟩
abbrev cX12_seed : ByteArray := prog_14_method_66_code
def yX12_seed : MethodName := ⟨RX12, "seed", "(J)J"⟩
abbrev cX12_years : ByteArray := prog_14_method_67_code
def yX12_years : MethodName := ⟨RX12, "years", "(I)I"⟩
abbrev cX12_keep : ByteArray := prog_14_method_68_code
def yX12_keep : MethodName := ⟨RX12, "keep", "(I)I"⟩
abbrev cX12_again : ByteArray := prog_14_method_69_code
def yX12_again : MethodName := ⟨RX12, "again", "(I)I"⟩
def RJ6 : String := "java/lang/Integer"
def TJ6 : u_T := fun k => match k with
  | _ => ("", "", "", false)
abbrev cJ6_bitCount_0f7a4 : ByteArray := prog_15_method_49_code
def yJ6_bitCount_0f7a4 : MethodName := ⟨RJ6, "bitCount", "(I)I"⟩
def RJ9 : String := "java/lang/Math"
def TJ9 : u_T := fun k => match k with
  | _ => ("", "", "", false)
abbrev cJ9_max_7cf53 : ByteArray := prog_16_method_65_code
def yJ9_max_7cf53 : MethodName := ⟨RJ9, "max", "(II)I"⟩
abbrev cJ9_min_7cf53 : ByteArray := prog_16_method_69_code
def yJ9_min_7cf53 : MethodName := ⟨RJ9, "min", "(II)I"⟩
def RJ10 : String := "java/lang/System"
def TJ10 : u_T := fun k => match k with
  | _ => ("", "", "", false)
def RL : String := "ErrataColumnLaw"
abbrev cL_law : ByteArray := code
abbrev vwCl : List vw_C := [(RX0, TX0, 5), (RX1, TX1, 2), (RX2, TX2, 3), (RX3, TX3, 3), (RX4, TX4, 3), (RX5, TX5, 2), (RX6, TX6, 7), (RX7, TX7, 1), (RX8, TX8, 1), (RX9, TX9, 1), (RX10, TX10, 12), (RX11, TX11, 11), (RX12, TX12, 34)]
end
section
theorem dX0_init_0 : decode cX0_init 0 = .ok (.aload_n 0, 1) := by decide +kernel
theorem dX0_init_1 : decode cX0_init 1 = .ok (.invokespecial 3, 3) := by decide +kernel
theorem dX0_init_4 : decode cX0_init 4 = .ok (.aload_n 0, 1) := by decide +kernel
theorem dX0_init_5 : decode cX0_init 5 = .ok (.sipush 1024, 3) := by decide +kernel
theorem dX0_init_8 : decode cX0_init 8 = .ok (.newarray .boolean, 2) := by decide +kernel
theorem dX0_init_10 : decode cX0_init 10 = .ok (.putfield 9, 3) := by decide +kernel
theorem dX0_init_13 : decode cX0_init 13 = .ok (.aload_n 0, 1) := by decide +kernel
theorem dX0_init_14 : decode cX0_init 14 = .ok (.sipush 1024, 3) := by decide +kernel
theorem dX0_init_17 : decode cX0_init 17 = .ok (.newarray .int, 2) := by decide +kernel
theorem dX0_init_19 : decode cX0_init 19 = .ok (.putfield 15, 3) := by decide +kernel
theorem dX0_init_22 : decode cX0_init 22 = .ok (.return_, 1) := by decide +kernel
theorem dX0_take_0 : decode cX0_take 0 = .ok (.aload_n 0, 1) := by decide +kernel
theorem dX0_take_1 : decode cX0_take 1 = .ok (.aload_n 1, 1) := by decide +kernel
theorem dX0_take_2 : decode cX0_take 2 = .ok (.iload_n 2, 1) := by decide +kernel
theorem dX0_take_3 : decode cX0_take 3 = .ok (.invokevirtual 19, 3) := by decide +kernel
theorem dX0_take_6 : decode cX0_take 6 = .ok (.aload_n 0, 1) := by decide +kernel
theorem dX0_take_7 : decode cX0_take 7 = .ok (.invokevirtual 23, 3) := by decide +kernel
theorem dX0_take_10 : decode cX0_take 10 = .ok (.aload_n 0, 1) := by decide +kernel
theorem dX0_take_11 : decode cX0_take 11 = .ok (.iconst 0, 1) := by decide +kernel
theorem dX0_take_12 : decode cX0_take 12 = .ok (.putfield 26, 3) := by decide +kernel
theorem dX0_take_15 : decode cX0_take 15 = .ok (.aload_n 0, 1) := by decide +kernel
theorem dX0_take_16 : decode cX0_take 16 = .ok (.bipush (-9), 2) := by decide +kernel
theorem dX0_take_18 : decode cX0_take 18 = .ok (.putfield 30, 3) := by decide +kernel
theorem dX0_take_21 : decode cX0_take 21 = .ok (.iconst 0, 1) := by decide +kernel
theorem dX0_take_22 : decode cX0_take 22 = .ok (.istore 4, 2) := by decide +kernel
theorem dX0_take_24 : decode cX0_take 24 = .ok (.iload 4, 2) := by decide +kernel
theorem dX0_take_26 : decode cX0_take 26 = .ok (.aload_n 1, 1) := by decide +kernel
theorem dX0_take_27 : decode cX0_take 27 = .ok (.invokevirtual 33, 3) := by decide +kernel
theorem dX0_take_30 : decode cX0_take 30 = .ok (.if_icmp .ge 66, 3) := by decide +kernel
theorem dX0_take_33 : decode cX0_take 33 = .ok (.iload 4, 2) := by decide +kernel
theorem dX0_take_35 : decode cX0_take 35 = .ok (.aload_n 0, 1) := by decide +kernel
theorem dX0_take_36 : decode cX0_take 36 = .ok (.getfield 9, 3) := by decide +kernel
theorem dX0_take_39 : decode cX0_take 39 = .ok (.arraylength, 1) := by decide +kernel
theorem dX0_take_40 : decode cX0_take 40 = .ok (.if_icmp .ge 56, 3) := by decide +kernel
theorem dX0_take_43 : decode cX0_take 43 = .ok (.aload_n 0, 1) := by decide +kernel
theorem dX0_take_44 : decode cX0_take 44 = .ok (.getfield 9, 3) := by decide +kernel
theorem dX0_take_47 : decode cX0_take 47 = .ok (.iload 4, 2) := by decide +kernel
theorem dX0_take_49 : decode cX0_take 49 = .ok (.baload, 1) := by decide +kernel
theorem dX0_take_50 : decode cX0_take 50 = .ok (.ifCond .ne 40, 3) := by decide +kernel
theorem dX0_take_53 : decode cX0_take 53 = .ok (.aload_n 0, 1) := by decide +kernel
theorem dX0_take_54 : decode cX0_take 54 = .ok (.aload_n 0, 1) := by decide +kernel
theorem dX0_take_55 : decode cX0_take 55 = .ok (.getfield 26, 3) := by decide +kernel
theorem dX0_take_58 : decode cX0_take 58 = .ok (.iload_n 3, 1) := by decide +kernel
theorem dX0_take_59 : decode cX0_take 59 = .ok (.if_icmp .ne 8, 3) := by decide +kernel
theorem dX0_take_62 : decode cX0_take 62 = .ok (.iload 4, 2) := by decide +kernel
theorem dX0_take_64 : decode cX0_take 64 = .ok (.goto 7, 3) := by decide +kernel
theorem dX0_take_67 : decode cX0_take 67 = .ok (.aload_n 0, 1) := by decide +kernel
theorem dX0_take_68 : decode cX0_take 68 = .ok (.getfield 30, 3) := by decide +kernel
theorem dX0_take_71 : decode cX0_take 71 = .ok (.putfield 30, 3) := by decide +kernel
theorem dX0_take_74 : decode cX0_take 74 = .ok (.aload_n 0, 1) := by decide +kernel
theorem dX0_take_75 : decode cX0_take 75 = .ok (.dup, 1) := by decide +kernel
theorem dX0_take_76 : decode cX0_take 76 = .ok (.getfield 26, 3) := by decide +kernel
theorem dX0_take_79 : decode cX0_take 79 = .ok (.iconst 1, 1) := by decide +kernel
theorem dX0_take_80 : decode cX0_take 80 = .ok (.iadd, 1) := by decide +kernel
theorem dX0_take_81 : decode cX0_take 81 = .ok (.putfield 26, 3) := by decide +kernel
theorem dX0_take_84 : decode cX0_take 84 = .ok (.aload_n 0, 1) := by decide +kernel
theorem dX0_take_85 : decode cX0_take 85 = .ok (.iload 4, 2) := by decide +kernel
theorem dX0_take_87 : decode cX0_take 87 = .ok (.invokevirtual 39, 3) := by decide +kernel
theorem dX0_take_90 : decode cX0_take 90 = .ok (.iinc 4 1, 3) := by decide +kernel
theorem dX0_take_93 : decode cX0_take 93 = .ok (.goto (-69), 3) := by decide +kernel
theorem dX0_take_96 : decode cX0_take 96 = .ok (.return_, 1) := by decide +kernel
theorem dX0_clearNear_0 : decode cX0_clearNear 0 = .ok (.iconst 0, 1) := by decide +kernel
theorem dX0_clearNear_1 : decode cX0_clearNear 1 = .ok (.istore_n 1, 1) := by decide +kernel
theorem dX0_clearNear_2 : decode cX0_clearNear 2 = .ok (.iload_n 1, 1) := by decide +kernel
theorem dX0_clearNear_3 : decode cX0_clearNear 3 = .ok (.aload_n 0, 1) := by decide +kernel
theorem dX0_clearNear_4 : decode cX0_clearNear 4 = .ok (.getfield 9, 3) := by decide +kernel
theorem dX0_clearNear_7 : decode cX0_clearNear 7 = .ok (.arraylength, 1) := by decide +kernel
theorem dX0_clearNear_8 : decode cX0_clearNear 8 = .ok (.if_icmp .ge 16, 3) := by decide +kernel
theorem dX0_clearNear_11 : decode cX0_clearNear 11 = .ok (.aload_n 0, 1) := by decide +kernel
theorem dX0_clearNear_12 : decode cX0_clearNear 12 = .ok (.getfield 9, 3) := by decide +kernel
theorem dX0_clearNear_15 : decode cX0_clearNear 15 = .ok (.iload_n 1, 1) := by decide +kernel
theorem dX0_clearNear_16 : decode cX0_clearNear 16 = .ok (.iconst 0, 1) := by decide +kernel
theorem dX0_clearNear_17 : decode cX0_clearNear 17 = .ok (.bastore, 1) := by decide +kernel
theorem dX0_clearNear_18 : decode cX0_clearNear 18 = .ok (.iinc 1 1, 3) := by decide +kernel
theorem dX0_clearNear_21 : decode cX0_clearNear 21 = .ok (.goto (-19), 3) := by decide +kernel
theorem dX0_clearNear_24 : decode cX0_clearNear 24 = .ok (.return_, 1) := by decide +kernel
theorem dX0_findSlips_0 : decode cX0_findSlips 0 = .ok (.aload_n 0, 1) := by decide +kernel
theorem dX0_findSlips_1 : decode cX0_findSlips 1 = .ok (.iconst 0, 1) := by decide +kernel
theorem dX0_findSlips_2 : decode cX0_findSlips 2 = .ok (.putfield 43, 3) := by decide +kernel
theorem dX0_findSlips_5 : decode cX0_findSlips 5 = .ok (.iconst 0, 1) := by decide +kernel
theorem dX0_findSlips_6 : decode cX0_findSlips 6 = .ok (.istore_n 3, 1) := by decide +kernel
theorem dX0_findSlips_7 : decode cX0_findSlips 7 = .ok (.iload_n 3, 1) := by decide +kernel
theorem dX0_findSlips_8 : decode cX0_findSlips 8 = .ok (.aload_n 1, 1) := by decide +kernel
theorem dX0_findSlips_9 : decode cX0_findSlips 9 = .ok (.invokevirtual 33, 3) := by decide +kernel
theorem dX0_findSlips_12 : decode cX0_findSlips 12 = .ok (.if_icmp .ge 49, 3) := by decide +kernel
theorem dX0_findSlips_15 : decode cX0_findSlips 15 = .ok (.aload_n 0, 1) := by decide +kernel
theorem dX0_findSlips_16 : decode cX0_findSlips 16 = .ok (.getfield 43, 3) := by decide +kernel
theorem dX0_findSlips_19 : decode cX0_findSlips 19 = .ok (.aload_n 0, 1) := by decide +kernel
theorem dX0_findSlips_20 : decode cX0_findSlips 20 = .ok (.getfield 15, 3) := by decide +kernel
theorem dX0_findSlips_23 : decode cX0_findSlips 23 = .ok (.arraylength, 1) := by decide +kernel
theorem dX0_findSlips_24 : decode cX0_findSlips 24 = .ok (.if_icmp .ge 37, 3) := by decide +kernel
theorem dX0_findSlips_27 : decode cX0_findSlips 27 = .ok (.iload_n 3, 1) := by decide +kernel
theorem dX0_findSlips_28 : decode cX0_findSlips 28 = .ok (.invokestatic 46, 3) := by decide +kernel
theorem dX0_findSlips_31 : decode cX0_findSlips 31 = .ok (.iload_n 2, 1) := by decide +kernel
theorem dX0_findSlips_32 : decode cX0_findSlips 32 = .ok (.if_icmp .ge 23, 3) := by decide +kernel
theorem dX0_findSlips_35 : decode cX0_findSlips 35 = .ok (.aload_n 0, 1) := by decide +kernel
theorem dX0_findSlips_36 : decode cX0_findSlips 36 = .ok (.getfield 15, 3) := by decide +kernel
theorem dX0_findSlips_39 : decode cX0_findSlips 39 = .ok (.aload_n 0, 1) := by decide +kernel
theorem dX0_findSlips_40 : decode cX0_findSlips 40 = .ok (.getfield 43, 3) := by decide +kernel
theorem dX0_findSlips_43 : decode cX0_findSlips 43 = .ok (.iload_n 3, 1) := by decide +kernel
theorem dX0_findSlips_44 : decode cX0_findSlips 44 = .ok (.iastore, 1) := by decide +kernel
theorem dX0_findSlips_45 : decode cX0_findSlips 45 = .ok (.aload_n 0, 1) := by decide +kernel
theorem dX0_findSlips_46 : decode cX0_findSlips 46 = .ok (.dup, 1) := by decide +kernel
theorem dX0_findSlips_47 : decode cX0_findSlips 47 = .ok (.getfield 43, 3) := by decide +kernel
theorem dX0_findSlips_50 : decode cX0_findSlips 50 = .ok (.iconst 1, 1) := by decide +kernel
theorem dX0_findSlips_51 : decode cX0_findSlips 51 = .ok (.iadd, 1) := by decide +kernel
theorem dX0_findSlips_52 : decode cX0_findSlips 52 = .ok (.putfield 43, 3) := by decide +kernel
theorem dX0_findSlips_55 : decode cX0_findSlips 55 = .ok (.iinc 3 1, 3) := by decide +kernel
theorem dX0_findSlips_58 : decode cX0_findSlips 58 = .ok (.goto (-51), 3) := by decide +kernel
theorem dX0_findSlips_61 : decode cX0_findSlips 61 = .ok (.return_, 1) := by decide +kernel
theorem dX0_barAround_0 : decode cX0_barAround 0 = .ok (.iconst 0, 1) := by decide +kernel
theorem dX0_barAround_1 : decode cX0_barAround 1 = .ok (.istore_n 2, 1) := by decide +kernel
theorem dX0_barAround_2 : decode cX0_barAround 2 = .ok (.iload_n 2, 1) := by decide +kernel
theorem dX0_barAround_3 : decode cX0_barAround 3 = .ok (.aload_n 0, 1) := by decide +kernel
theorem dX0_barAround_4 : decode cX0_barAround 4 = .ok (.getfield 43, 3) := by decide +kernel
theorem dX0_barAround_7 : decode cX0_barAround 7 = .ok (.if_icmp .ge 47, 3) := by decide +kernel
theorem dX0_barAround_10 : decode cX0_barAround 10 = .ok (.iload_n 2, 1) := by decide +kernel
theorem dX0_barAround_11 : decode cX0_barAround 11 = .ok (.aload_n 0, 1) := by decide +kernel
theorem dX0_barAround_12 : decode cX0_barAround 12 = .ok (.getfield 15, 3) := by decide +kernel
theorem dX0_barAround_15 : decode cX0_barAround 15 = .ok (.arraylength, 1) := by decide +kernel
theorem dX0_barAround_16 : decode cX0_barAround 16 = .ok (.if_icmp .ge 38, 3) := by decide +kernel
theorem dX0_barAround_19 : decode cX0_barAround 19 = .ok (.iload_n 1, 1) := by decide +kernel
theorem dX0_barAround_20 : decode cX0_barAround 20 = .ok (.aload_n 0, 1) := by decide +kernel
theorem dX0_barAround_21 : decode cX0_barAround 21 = .ok (.getfield 15, 3) := by decide +kernel
theorem dX0_barAround_24 : decode cX0_barAround 24 = .ok (.iload_n 2, 1) := by decide +kernel
theorem dX0_barAround_25 : decode cX0_barAround 25 = .ok (.iaload, 1) := by decide +kernel
theorem dX0_barAround_26 : decode cX0_barAround 26 = .ok (.ixor, 1) := by decide +kernel
theorem dX0_barAround_27 : decode cX0_barAround 27 = .ok (.istore_n 3, 1) := by decide +kernel
theorem dX0_barAround_28 : decode cX0_barAround 28 = .ok (.iload_n 3, 1) := by decide +kernel
theorem dX0_barAround_29 : decode cX0_barAround 29 = .ok (.ifCond .lt 19, 3) := by decide +kernel
theorem dX0_barAround_32 : decode cX0_barAround 32 = .ok (.iload_n 3, 1) := by decide +kernel
theorem dX0_barAround_33 : decode cX0_barAround 33 = .ok (.aload_n 0, 1) := by decide +kernel
theorem dX0_barAround_34 : decode cX0_barAround 34 = .ok (.getfield 9, 3) := by decide +kernel
theorem dX0_barAround_37 : decode cX0_barAround 37 = .ok (.arraylength, 1) := by decide +kernel
theorem dX0_barAround_38 : decode cX0_barAround 38 = .ok (.if_icmp .ge 10, 3) := by decide +kernel
theorem dX0_barAround_41 : decode cX0_barAround 41 = .ok (.aload_n 0, 1) := by decide +kernel
theorem dX0_barAround_42 : decode cX0_barAround 42 = .ok (.getfield 9, 3) := by decide +kernel
theorem dX0_barAround_45 : decode cX0_barAround 45 = .ok (.iload_n 3, 1) := by decide +kernel
theorem dX0_barAround_46 : decode cX0_barAround 46 = .ok (.iconst 1, 1) := by decide +kernel
theorem dX0_barAround_47 : decode cX0_barAround 47 = .ok (.bastore, 1) := by decide +kernel
theorem dX0_barAround_48 : decode cX0_barAround 48 = .ok (.iinc 2 1, 3) := by decide +kernel
theorem dX0_barAround_51 : decode cX0_barAround 51 = .ok (.goto (-49), 3) := by decide +kernel
theorem dX0_barAround_54 : decode cX0_barAround 54 = .ok (.return_, 1) := by decide +kernel
theorem dX1_init_0 : decode cX1_init 0 = .ok (.aload_n 0, 1) := by decide +kernel
theorem dX1_init_1 : decode cX1_init 1 = .ok (.invokespecial 3, 3) := by decide +kernel
theorem dX1_init_4 : decode cX1_init 4 = .ok (.aload_n 0, 1) := by decide +kernel
theorem dX1_init_5 : decode cX1_init 5 = .ok (.bipush 9, 2) := by decide +kernel
theorem dX1_init_7 : decode cX1_init 7 = .ok (.newarray .int, 2) := by decide +kernel
theorem dX1_init_9 : decode cX1_init 9 = .ok (.putfield 9, 3) := by decide +kernel
theorem dX1_init_12 : decode cX1_init 12 = .ok (.return_, 1) := by decide +kernel
theorem dX1_look_0 : decode cX1_look 0 = .ok (.aload_n 0, 1) := by decide +kernel
theorem dX1_look_1 : decode cX1_look 1 = .ok (.aload_n 1, 1) := by decide +kernel
theorem dX1_look_2 : decode cX1_look 2 = .ok (.getfield 15, 3) := by decide +kernel
theorem dX1_look_5 : decode cX1_look 5 = .ok (.iconst 3, 1) := by decide +kernel
theorem dX1_look_6 : decode cX1_look 6 = .ok (.invokestatic 21, 3) := by decide +kernel
theorem dX1_look_9 : decode cX1_look 9 = .ok (.putfield 27, 3) := by decide +kernel
theorem dX1_look_12 : decode cX1_look 12 = .ok (.iconst 0, 1) := by decide +kernel
theorem dX1_look_13 : decode cX1_look 13 = .ok (.istore 6, 2) := by decide +kernel
theorem dX1_look_15 : decode cX1_look 15 = .ok (.iload 6, 2) := by decide +kernel
theorem dX1_look_17 : decode cX1_look 17 = .ok (.aload_n 0, 1) := by decide +kernel
theorem dX1_look_18 : decode cX1_look 18 = .ok (.getfield 27, 3) := by decide +kernel
theorem dX1_look_21 : decode cX1_look 21 = .ok (.if_icmp .ge 86, 3) := by decide +kernel
theorem dX1_look_24 : decode cX1_look 24 = .ok (.aload_n 1, 1) := by decide +kernel
theorem dX1_look_25 : decode cX1_look 25 = .ok (.iload 6, 2) := by decide +kernel
theorem dX1_look_27 : decode cX1_look 27 = .ok (.aload_n 1, 1) := by decide +kernel
theorem dX1_look_28 : decode cX1_look 28 = .ok (.getfield 30, 3) := by decide +kernel
theorem dX1_look_31 : decode cX1_look 31 = .ok (.invokevirtual 34, 3) := by decide +kernel
theorem dX1_look_34 : decode cX1_look 34 = .ok (.iload_n 2, 1) := by decide +kernel
theorem dX1_look_35 : decode cX1_look 35 = .ok (.iload_n 3, 1) := by decide +kernel
theorem dX1_look_36 : decode cX1_look 36 = .ok (.invokevirtual 40, 3) := by decide +kernel
theorem dX1_look_39 : decode cX1_look 39 = .ok (.istore 7, 2) := by decide +kernel
theorem dX1_look_41 : decode cX1_look 41 = .ok (.iconst 0, 1) := by decide +kernel
theorem dX1_look_42 : decode cX1_look 42 = .ok (.istore 8, 2) := by decide +kernel
theorem dX1_look_44 : decode cX1_look 44 = .ok (.iload 8, 2) := by decide +kernel
theorem dX1_look_46 : decode cX1_look 46 = .ok (.aload_n 0, 1) := by decide +kernel
theorem dX1_look_47 : decode cX1_look 47 = .ok (.getfield 27, 3) := by decide +kernel
theorem dX1_look_50 : decode cX1_look 50 = .ok (.if_icmp .ge 51, 3) := by decide +kernel
theorem dX1_look_53 : decode cX1_look 53 = .ok (.iload 6, 2) := by decide +kernel
theorem dX1_look_55 : decode cX1_look 55 = .ok (.iconst 3, 1) := by decide +kernel
theorem dX1_look_56 : decode cX1_look 56 = .ok (.imul, 1) := by decide +kernel
theorem dX1_look_57 : decode cX1_look 57 = .ok (.iload 8, 2) := by decide +kernel
theorem dX1_look_59 : decode cX1_look 59 = .ok (.iadd, 1) := by decide +kernel
theorem dX1_look_60 : decode cX1_look 60 = .ok (.istore 9, 2) := by decide +kernel
theorem dX1_look_62 : decode cX1_look 62 = .ok (.iload 9, 2) := by decide +kernel
theorem dX1_look_64 : decode cX1_look 64 = .ok (.aload_n 0, 1) := by decide +kernel
theorem dX1_look_65 : decode cX1_look 65 = .ok (.getfield 9, 3) := by decide +kernel
theorem dX1_look_68 : decode cX1_look 68 = .ok (.arraylength, 1) := by decide +kernel
theorem dX1_look_69 : decode cX1_look 69 = .ok (.if_icmp .ge 26, 3) := by decide +kernel
theorem dX1_look_72 : decode cX1_look 72 = .ok (.aload_n 0, 1) := by decide +kernel
theorem dX1_look_73 : decode cX1_look 73 = .ok (.getfield 9, 3) := by decide +kernel
theorem dX1_look_76 : decode cX1_look 76 = .ok (.iload 9, 2) := by decide +kernel
theorem dX1_look_78 : decode cX1_look 78 = .ok (.aload_n 1, 1) := by decide +kernel
theorem dX1_look_79 : decode cX1_look 79 = .ok (.aload_n 1, 1) := by decide +kernel
theorem dX1_look_80 : decode cX1_look 80 = .ok (.iload 8, 2) := by decide +kernel
theorem dX1_look_82 : decode cX1_look 82 = .ok (.iload 7, 2) := by decide +kernel
theorem dX1_look_84 : decode cX1_look 84 = .ok (.iload 4, 2) := by decide +kernel
theorem dX1_look_86 : decode cX1_look 86 = .ok (.iload 5, 2) := by decide +kernel
theorem dX1_look_88 : decode cX1_look 88 = .ok (.invokevirtual 40, 3) := by decide +kernel
theorem dX1_look_91 : decode cX1_look 91 = .ok (.invokevirtual 44, 3) := by decide +kernel
theorem dX1_look_94 : decode cX1_look 94 = .ok (.iastore, 1) := by decide +kernel
theorem dX1_look_95 : decode cX1_look 95 = .ok (.iinc 8 1, 3) := by decide +kernel
theorem dX1_look_98 : decode cX1_look 98 = .ok (.goto (-54), 3) := by decide +kernel
theorem dX1_look_101 : decode cX1_look 101 = .ok (.iinc 6 1, 3) := by decide +kernel
theorem dX1_look_104 : decode cX1_look 104 = .ok (.goto (-89), 3) := by decide +kernel
theorem dX1_look_107 : decode cX1_look 107 = .ok (.return_, 1) := by decide +kernel
theorem dX1_rightBy_0 : decode cX1_rightBy 0 = .ok (.iload_n 1, 1) := by decide +kernel
theorem dX1_rightBy_1 : decode cX1_rightBy 1 = .ok (.iconst 3, 1) := by decide +kernel
theorem dX1_rightBy_2 : decode cX1_rightBy 2 = .ok (.imul, 1) := by decide +kernel
theorem dX1_rightBy_3 : decode cX1_rightBy 3 = .ok (.iload_n 2, 1) := by decide +kernel
theorem dX1_rightBy_4 : decode cX1_rightBy 4 = .ok (.iadd, 1) := by decide +kernel
theorem dX1_rightBy_5 : decode cX1_rightBy 5 = .ok (.istore_n 3, 1) := by decide +kernel
theorem dX1_rightBy_6 : decode cX1_rightBy 6 = .ok (.iload_n 3, 1) := by decide +kernel
theorem dX1_rightBy_7 : decode cX1_rightBy 7 = .ok (.ifCond .lt 21, 3) := by decide +kernel
theorem dX1_rightBy_10 : decode cX1_rightBy 10 = .ok (.iload_n 3, 1) := by decide +kernel
theorem dX1_rightBy_11 : decode cX1_rightBy 11 = .ok (.aload_n 0, 1) := by decide +kernel
theorem dX1_rightBy_12 : decode cX1_rightBy 12 = .ok (.getfield 9, 3) := by decide +kernel
theorem dX1_rightBy_15 : decode cX1_rightBy 15 = .ok (.arraylength, 1) := by decide +kernel
theorem dX1_rightBy_16 : decode cX1_rightBy 16 = .ok (.if_icmp .ge 12, 3) := by decide +kernel
theorem dX1_rightBy_19 : decode cX1_rightBy 19 = .ok (.aload_n 0, 1) := by decide +kernel
theorem dX1_rightBy_20 : decode cX1_rightBy 20 = .ok (.getfield 9, 3) := by decide +kernel
theorem dX1_rightBy_23 : decode cX1_rightBy 23 = .ok (.iload_n 3, 1) := by decide +kernel
theorem dX1_rightBy_24 : decode cX1_rightBy 24 = .ok (.iaload, 1) := by decide +kernel
theorem dX1_rightBy_25 : decode cX1_rightBy 25 = .ok (.goto 4, 3) := by decide +kernel
theorem dX1_rightBy_28 : decode cX1_rightBy 28 = .ok (.iconst 0, 1) := by decide +kernel
theorem dX1_rightBy_29 : decode cX1_rightBy 29 = .ok (.ireturn, 1) := by decide +kernel
theorem dX1_isAtRest_0 : decode cX1_isAtRest 0 = .ok (.aload_n 0, 1) := by decide +kernel
theorem dX1_isAtRest_1 : decode cX1_isAtRest 1 = .ok (.iload_n 1, 1) := by decide +kernel
theorem dX1_isAtRest_2 : decode cX1_isAtRest 2 = .ok (.iload_n 2, 1) := by decide +kernel
theorem dX1_isAtRest_3 : decode cX1_isAtRest 3 = .ok (.invokevirtual 48, 3) := by decide +kernel
theorem dX1_isAtRest_6 : decode cX1_isAtRest 6 = .ok (.istore_n 3, 1) := by decide +kernel
theorem dX1_isAtRest_7 : decode cX1_isAtRest 7 = .ok (.iconst 0, 1) := by decide +kernel
theorem dX1_isAtRest_8 : decode cX1_isAtRest 8 = .ok (.istore 4, 2) := by decide +kernel
theorem dX1_isAtRest_10 : decode cX1_isAtRest 10 = .ok (.iload 4, 2) := by decide +kernel
theorem dX1_isAtRest_12 : decode cX1_isAtRest 12 = .ok (.aload_n 0, 1) := by decide +kernel
theorem dX1_isAtRest_13 : decode cX1_isAtRest 13 = .ok (.getfield 27, 3) := by decide +kernel
theorem dX1_isAtRest_16 : decode cX1_isAtRest 16 = .ok (.if_icmp .ge 33, 3) := by decide +kernel
theorem dX1_isAtRest_19 : decode cX1_isAtRest 19 = .ok (.aload_n 0, 1) := by decide +kernel
theorem dX1_isAtRest_20 : decode cX1_isAtRest 20 = .ok (.iload 4, 2) := by decide +kernel
theorem dX1_isAtRest_22 : decode cX1_isAtRest 22 = .ok (.iload_n 2, 1) := by decide +kernel
theorem dX1_isAtRest_23 : decode cX1_isAtRest 23 = .ok (.invokevirtual 48, 3) := by decide +kernel
theorem dX1_isAtRest_26 : decode cX1_isAtRest 26 = .ok (.iload_n 3, 1) := by decide +kernel
theorem dX1_isAtRest_27 : decode cX1_isAtRest 27 = .ok (.if_icmp .gt 14, 3) := by decide +kernel
theorem dX1_isAtRest_30 : decode cX1_isAtRest 30 = .ok (.aload_n 0, 1) := by decide +kernel
theorem dX1_isAtRest_31 : decode cX1_isAtRest 31 = .ok (.iload_n 1, 1) := by decide +kernel
theorem dX1_isAtRest_32 : decode cX1_isAtRest 32 = .ok (.iload 4, 2) := by decide +kernel
theorem dX1_isAtRest_34 : decode cX1_isAtRest 34 = .ok (.invokevirtual 48, 3) := by decide +kernel
theorem dX1_isAtRest_37 : decode cX1_isAtRest 37 = .ok (.iload_n 3, 1) := by decide +kernel
theorem dX1_isAtRest_38 : decode cX1_isAtRest 38 = .ok (.if_icmp .ge 5, 3) := by decide +kernel
theorem dX1_isAtRest_41 : decode cX1_isAtRest 41 = .ok (.iconst 0, 1) := by decide +kernel
theorem dX1_isAtRest_42 : decode cX1_isAtRest 42 = .ok (.ireturn, 1) := by decide +kernel
theorem dX1_isAtRest_43 : decode cX1_isAtRest 43 = .ok (.iinc 4 1, 3) := by decide +kernel
theorem dX1_isAtRest_46 : decode cX1_isAtRest 46 = .ok (.goto (-36), 3) := by decide +kernel
theorem dX1_isAtRest_49 : decode cX1_isAtRest 49 = .ok (.iconst 1, 1) := by decide +kernel
theorem dX1_isAtRest_50 : decode cX1_isAtRest 50 = .ok (.ireturn, 1) := by decide +kernel
theorem dX1_restsInAll_0 : decode cX1_restsInAll 0 = .ok (.iconst 0, 1) := by decide +kernel
theorem dX1_restsInAll_1 : decode cX1_restsInAll 1 = .ok (.istore_n 1, 1) := by decide +kernel
theorem dX1_restsInAll_2 : decode cX1_restsInAll 2 = .ok (.iconst 0, 1) := by decide +kernel
theorem dX1_restsInAll_3 : decode cX1_restsInAll 3 = .ok (.istore_n 2, 1) := by decide +kernel
theorem dX1_restsInAll_4 : decode cX1_restsInAll 4 = .ok (.iload_n 2, 1) := by decide +kernel
theorem dX1_restsInAll_5 : decode cX1_restsInAll 5 = .ok (.aload_n 0, 1) := by decide +kernel
theorem dX1_restsInAll_6 : decode cX1_restsInAll 6 = .ok (.getfield 27, 3) := by decide +kernel
theorem dX1_restsInAll_9 : decode cX1_restsInAll 9 = .ok (.if_icmp .ge 42, 3) := by decide +kernel
theorem dX1_restsInAll_12 : decode cX1_restsInAll 12 = .ok (.iconst 0, 1) := by decide +kernel
theorem dX1_restsInAll_13 : decode cX1_restsInAll 13 = .ok (.istore_n 3, 1) := by decide +kernel
theorem dX1_restsInAll_14 : decode cX1_restsInAll 14 = .ok (.iload_n 3, 1) := by decide +kernel
theorem dX1_restsInAll_15 : decode cX1_restsInAll 15 = .ok (.aload_n 0, 1) := by decide +kernel
theorem dX1_restsInAll_16 : decode cX1_restsInAll 16 = .ok (.getfield 27, 3) := by decide +kernel
theorem dX1_restsInAll_19 : decode cX1_restsInAll 19 = .ok (.if_icmp .ge 26, 3) := by decide +kernel
theorem dX1_restsInAll_22 : decode cX1_restsInAll 22 = .ok (.iload_n 1, 1) := by decide +kernel
theorem dX1_restsInAll_23 : decode cX1_restsInAll 23 = .ok (.aload_n 0, 1) := by decide +kernel
theorem dX1_restsInAll_24 : decode cX1_restsInAll 24 = .ok (.iload_n 2, 1) := by decide +kernel
theorem dX1_restsInAll_25 : decode cX1_restsInAll 25 = .ok (.iload_n 3, 1) := by decide +kernel
theorem dX1_restsInAll_26 : decode cX1_restsInAll 26 = .ok (.invokevirtual 51, 3) := by decide +kernel
theorem dX1_restsInAll_29 : decode cX1_restsInAll 29 = .ok (.ifCond .eq 7, 3) := by decide +kernel
theorem dX1_restsInAll_32 : decode cX1_restsInAll 32 = .ok (.iconst 1, 1) := by decide +kernel
theorem dX1_restsInAll_33 : decode cX1_restsInAll 33 = .ok (.goto 4, 3) := by decide +kernel
theorem dX1_restsInAll_36 : decode cX1_restsInAll 36 = .ok (.iconst 0, 1) := by decide +kernel
theorem dX1_restsInAll_37 : decode cX1_restsInAll 37 = .ok (.iadd, 1) := by decide +kernel
theorem dX1_restsInAll_38 : decode cX1_restsInAll 38 = .ok (.istore_n 1, 1) := by decide +kernel
theorem dX1_restsInAll_39 : decode cX1_restsInAll 39 = .ok (.iinc 3 1, 3) := by decide +kernel
theorem dX1_restsInAll_42 : decode cX1_restsInAll 42 = .ok (.goto (-28), 3) := by decide +kernel
theorem dX1_restsInAll_45 : decode cX1_restsInAll 45 = .ok (.iinc 2 1, 3) := by decide +kernel
theorem dX1_restsInAll_48 : decode cX1_restsInAll 48 = .ok (.goto (-44), 3) := by decide +kernel
theorem dX1_restsInAll_51 : decode cX1_restsInAll 51 = .ok (.iload_n 1, 1) := by decide +kernel
theorem dX1_restsInAll_52 : decode cX1_restsInAll 52 = .ok (.ireturn, 1) := by decide +kernel
theorem dX1_leastRest_0 : decode cX1_leastRest 0 = .ok (.iconst 0, 1) := by decide +kernel
theorem dX1_leastRest_1 : decode cX1_leastRest 1 = .ok (.istore_n 1, 1) := by decide +kernel
theorem dX1_leastRest_2 : decode cX1_leastRest 2 = .ok (.iload_n 1, 1) := by decide +kernel
theorem dX1_leastRest_3 : decode cX1_leastRest 3 = .ok (.aload_n 0, 1) := by decide +kernel
theorem dX1_leastRest_4 : decode cX1_leastRest 4 = .ok (.getfield 27, 3) := by decide +kernel
theorem dX1_leastRest_7 : decode cX1_leastRest 7 = .ok (.if_icmp .ge 41, 3) := by decide +kernel
theorem dX1_leastRest_10 : decode cX1_leastRest 10 = .ok (.iconst 0, 1) := by decide +kernel
theorem dX1_leastRest_11 : decode cX1_leastRest 11 = .ok (.istore_n 2, 1) := by decide +kernel
theorem dX1_leastRest_12 : decode cX1_leastRest 12 = .ok (.iload_n 2, 1) := by decide +kernel
theorem dX1_leastRest_13 : decode cX1_leastRest 13 = .ok (.aload_n 0, 1) := by decide +kernel
theorem dX1_leastRest_14 : decode cX1_leastRest 14 = .ok (.getfield 27, 3) := by decide +kernel
theorem dX1_leastRest_17 : decode cX1_leastRest 17 = .ok (.if_icmp .ge 25, 3) := by decide +kernel
theorem dX1_leastRest_20 : decode cX1_leastRest 20 = .ok (.aload_n 0, 1) := by decide +kernel
theorem dX1_leastRest_21 : decode cX1_leastRest 21 = .ok (.iload_n 1, 1) := by decide +kernel
theorem dX1_leastRest_22 : decode cX1_leastRest 22 = .ok (.iload_n 2, 1) := by decide +kernel
theorem dX1_leastRest_23 : decode cX1_leastRest 23 = .ok (.invokevirtual 51, 3) := by decide +kernel
theorem dX1_leastRest_26 : decode cX1_leastRest 26 = .ok (.ifCond .eq 10, 3) := by decide +kernel
theorem dX1_leastRest_29 : decode cX1_leastRest 29 = .ok (.bipush 10, 2) := by decide +kernel
theorem dX1_leastRest_31 : decode cX1_leastRest 31 = .ok (.iload_n 1, 1) := by decide +kernel
theorem dX1_leastRest_32 : decode cX1_leastRest 32 = .ok (.imul, 1) := by decide +kernel
theorem dX1_leastRest_33 : decode cX1_leastRest 33 = .ok (.iload_n 2, 1) := by decide +kernel
theorem dX1_leastRest_34 : decode cX1_leastRest 34 = .ok (.iadd, 1) := by decide +kernel
theorem dX1_leastRest_35 : decode cX1_leastRest 35 = .ok (.ireturn, 1) := by decide +kernel
theorem dX1_leastRest_36 : decode cX1_leastRest 36 = .ok (.iinc 2 1, 3) := by decide +kernel
theorem dX1_leastRest_39 : decode cX1_leastRest 39 = .ok (.goto (-27), 3) := by decide +kernel
theorem dX1_leastRest_42 : decode cX1_leastRest 42 = .ok (.iinc 1 1, 3) := by decide +kernel
theorem dX1_leastRest_45 : decode cX1_leastRest 45 = .ok (.goto (-43), 3) := by decide +kernel
theorem dX1_leastRest_48 : decode cX1_leastRest 48 = .ok (.bipush (-9), 2) := by decide +kernel
theorem dX1_leastRest_50 : decode cX1_leastRest 50 = .ok (.ireturn, 1) := by decide +kernel
theorem dX2_init_0 : decode cX2_init 0 = .ok (.aload_n 0, 1) := by decide +kernel
theorem dX2_init_1 : decode cX2_init 1 = .ok (.invokespecial 3, 3) := by decide +kernel
theorem dX2_init_4 : decode cX2_init 4 = .ok (.aload_n 0, 1) := by decide +kernel
theorem dX2_init_5 : decode cX2_init 5 = .ok (.iconst 3, 1) := by decide +kernel
theorem dX2_init_6 : decode cX2_init 6 = .ok (.newarray .int, 2) := by decide +kernel
theorem dX2_init_8 : decode cX2_init 8 = .ok (.putfield 9, 3) := by decide +kernel
theorem dX2_init_11 : decode cX2_init 11 = .ok (.return_, 1) := by decide +kernel
theorem dX2_tenTo_0 : decode cX2_tenTo 0 = .ok (.iconst 1, 1) := by decide +kernel
theorem dX2_tenTo_1 : decode cX2_tenTo 1 = .ok (.istore_n 1, 1) := by decide +kernel
theorem dX2_tenTo_2 : decode cX2_tenTo 2 = .ok (.iconst 0, 1) := by decide +kernel
theorem dX2_tenTo_3 : decode cX2_tenTo 3 = .ok (.istore_n 2, 1) := by decide +kernel
theorem dX2_tenTo_4 : decode cX2_tenTo 4 = .ok (.iload_n 2, 1) := by decide +kernel
theorem dX2_tenTo_5 : decode cX2_tenTo 5 = .ok (.iload_n 0, 1) := by decide +kernel
theorem dX2_tenTo_6 : decode cX2_tenTo 6 = .ok (.if_icmp .ge 19, 3) := by decide +kernel
theorem dX2_tenTo_9 : decode cX2_tenTo 9 = .ok (.iload_n 2, 1) := by decide +kernel
theorem dX2_tenTo_10 : decode cX2_tenTo 10 = .ok (.iconst 4, 1) := by decide +kernel
theorem dX2_tenTo_11 : decode cX2_tenTo 11 = .ok (.if_icmp .ge 14, 3) := by decide +kernel
theorem dX2_tenTo_14 : decode cX2_tenTo 14 = .ok (.iload_n 1, 1) := by decide +kernel
theorem dX2_tenTo_15 : decode cX2_tenTo 15 = .ok (.bipush 10, 2) := by decide +kernel
theorem dX2_tenTo_17 : decode cX2_tenTo 17 = .ok (.imul, 1) := by decide +kernel
theorem dX2_tenTo_18 : decode cX2_tenTo 18 = .ok (.istore_n 1, 1) := by decide +kernel
theorem dX2_tenTo_19 : decode cX2_tenTo 19 = .ok (.iinc 2 1, 3) := by decide +kernel
theorem dX2_tenTo_22 : decode cX2_tenTo 22 = .ok (.goto (-18), 3) := by decide +kernel
theorem dX2_tenTo_25 : decode cX2_tenTo 25 = .ok (.iload_n 1, 1) := by decide +kernel
theorem dX2_tenTo_26 : decode cX2_tenTo 26 = .ok (.ireturn, 1) := by decide +kernel
theorem dX2_ofTruth_0 : decode cX2_ofTruth 0 = .ok (.aload_n 1, 1) := by decide +kernel
theorem dX2_ofTruth_1 : decode cX2_ofTruth 1 = .ok (.aload_n 1, 1) := by decide +kernel
theorem dX2_ofTruth_2 : decode cX2_ofTruth 2 = .ok (.getfield 15, 3) := by decide +kernel
theorem dX2_ofTruth_5 : decode cX2_ofTruth 5 = .ok (.invokevirtual 21, 3) := by decide +kernel
theorem dX2_ofTruth_8 : decode cX2_ofTruth 8 = .ok (.aload_n 1, 1) := by decide +kernel
theorem dX2_ofTruth_9 : decode cX2_ofTruth 9 = .ok (.getfield 15, 3) := by decide +kernel
theorem dX2_ofTruth_12 : decode cX2_ofTruth 12 = .ok (.iload_n 2, 1) := by decide +kernel
theorem dX2_ofTruth_13 : decode cX2_ofTruth 13 = .ok (.invokevirtual 27, 3) := by decide +kernel
theorem dX2_ofTruth_16 : decode cX2_ofTruth 16 = .ok (.iload_n 3, 1) := by decide +kernel
theorem dX2_ofTruth_17 : decode cX2_ofTruth 17 = .ok (.iload 4, 2) := by decide +kernel
theorem dX2_ofTruth_19 : decode cX2_ofTruth 19 = .ok (.invokestatic 31, 3) := by decide +kernel
theorem dX2_ofTruth_22 : decode cX2_ofTruth 22 = .ok (.ireturn, 1) := by decide +kernel
theorem dX2_waysToTruth_0 : decode cX2_waysToTruth 0 = .ok (.iload_n 1, 1) := by decide +kernel
theorem dX2_waysToTruth_1 : decode cX2_waysToTruth 1 = .ok (.aload_n 0, 1) := by decide +kernel
theorem dX2_waysToTruth_2 : decode cX2_waysToTruth 2 = .ok (.getfield 35, 3) := by decide +kernel
theorem dX2_waysToTruth_5 : decode cX2_waysToTruth 5 = .ok (.if_icmp .ne 8, 3) := by decide +kernel
theorem dX2_waysToTruth_8 : decode cX2_waysToTruth 8 = .ok (.iload_n 3, 1) := by decide +kernel
theorem dX2_waysToTruth_9 : decode cX2_waysToTruth 9 = .ok (.invokestatic 39, 3) := by decide +kernel
theorem dX2_waysToTruth_12 : decode cX2_waysToTruth 12 = .ok (.ireturn, 1) := by decide +kernel
theorem dX2_waysToTruth_13 : decode cX2_waysToTruth 13 = .ok (.iload_n 3, 1) := by decide +kernel
theorem dX2_waysToTruth_14 : decode cX2_waysToTruth 14 = .ok (.ifCond .gt 5, 3) := by decide +kernel
theorem dX2_waysToTruth_17 : decode cX2_waysToTruth 17 = .ok (.iconst 0, 1) := by decide +kernel
theorem dX2_waysToTruth_18 : decode cX2_waysToTruth 18 = .ok (.ireturn, 1) := by decide +kernel
theorem dX2_waysToTruth_19 : decode cX2_waysToTruth 19 = .ok (.aload_n 0, 1) := by decide +kernel
theorem dX2_waysToTruth_20 : decode cX2_waysToTruth 20 = .ok (.iload_n 1, 1) := by decide +kernel
theorem dX2_waysToTruth_21 : decode cX2_waysToTruth 21 = .ok (.invokestatic 42, 3) := by decide +kernel
theorem dX2_waysToTruth_24 : decode cX2_waysToTruth 24 = .ok (.istore 5, 2) := by decide +kernel
theorem dX2_waysToTruth_26 : decode cX2_waysToTruth 26 = .ok (.aload_n 0, 1) := by decide +kernel
theorem dX2_waysToTruth_27 : decode cX2_waysToTruth 27 = .ok (.getfield 46, 3) := by decide +kernel
theorem dX2_waysToTruth_30 : decode cX2_waysToTruth 30 = .ok (.aload_n 0, 1) := by decide +kernel
theorem dX2_waysToTruth_31 : decode cX2_waysToTruth 31 = .ok (.getfield 35, 3) := by decide +kernel
theorem dX2_waysToTruth_34 : decode cX2_waysToTruth 34 = .ok (.iload 5, 2) := by decide +kernel
theorem dX2_waysToTruth_36 : decode cX2_waysToTruth 36 = .ok (.invokevirtual 50, 3) := by decide +kernel
theorem dX2_waysToTruth_39 : decode cX2_waysToTruth 39 = .ok (.istore 6, 2) := by decide +kernel
theorem dX2_waysToTruth_41 : decode cX2_waysToTruth 41 = .ok (.aload_n 0, 1) := by decide +kernel
theorem dX2_waysToTruth_42 : decode cX2_waysToTruth 42 = .ok (.getfield 46, 3) := by decide +kernel
theorem dX2_waysToTruth_45 : decode cX2_waysToTruth 45 = .ok (.iload_n 2, 1) := by decide +kernel
theorem dX2_waysToTruth_46 : decode cX2_waysToTruth 46 = .ok (.iload_n 1, 1) := by decide +kernel
theorem dX2_waysToTruth_47 : decode cX2_waysToTruth 47 = .ok (.iload 5, 2) := by decide +kernel
theorem dX2_waysToTruth_49 : decode cX2_waysToTruth 49 = .ok (.iload 6, 2) := by decide +kernel
theorem dX2_waysToTruth_51 : decode cX2_waysToTruth 51 = .ok (.invokevirtual 56, 3) := by decide +kernel
theorem dX2_waysToTruth_54 : decode cX2_waysToTruth 54 = .ok (.istore 7, 2) := by decide +kernel
theorem dX2_waysToTruth_56 : decode cX2_waysToTruth 56 = .ok (.aload_n 0, 1) := by decide +kernel
theorem dX2_waysToTruth_57 : decode cX2_waysToTruth 57 = .ok (.getfield 46, 3) := by decide +kernel
theorem dX2_waysToTruth_60 : decode cX2_waysToTruth 60 = .ok (.iconst 0, 1) := by decide +kernel
theorem dX2_waysToTruth_61 : decode cX2_waysToTruth 61 = .ok (.iload_n 1, 1) := by decide +kernel
theorem dX2_waysToTruth_62 : decode cX2_waysToTruth 62 = .ok (.iload 5, 2) := by decide +kernel
theorem dX2_waysToTruth_64 : decode cX2_waysToTruth 64 = .ok (.iload 6, 2) := by decide +kernel
theorem dX2_waysToTruth_66 : decode cX2_waysToTruth 66 = .ok (.invokevirtual 56, 3) := by decide +kernel
theorem dX2_waysToTruth_69 : decode cX2_waysToTruth 69 = .ok (.istore 8, 2) := by decide +kernel
theorem dX2_waysToTruth_71 : decode cX2_waysToTruth 71 = .ok (.iload 4, 2) := by decide +kernel
theorem dX2_waysToTruth_73 : decode cX2_waysToTruth 73 = .ok (.aload_n 0, 1) := by decide +kernel
theorem dX2_waysToTruth_74 : decode cX2_waysToTruth 74 = .ok (.iload 7, 2) := by decide +kernel
theorem dX2_waysToTruth_76 : decode cX2_waysToTruth 76 = .ok (.iload_n 2, 1) := by decide +kernel
theorem dX2_waysToTruth_77 : decode cX2_waysToTruth 77 = .ok (.iload_n 3, 1) := by decide +kernel
theorem dX2_waysToTruth_78 : decode cX2_waysToTruth 78 = .ok (.iconst 1, 1) := by decide +kernel
theorem dX2_waysToTruth_79 : decode cX2_waysToTruth 79 = .ok (.isub, 1) := by decide +kernel
theorem dX2_waysToTruth_80 : decode cX2_waysToTruth 80 = .ok (.iload 4, 2) := by decide +kernel
theorem dX2_waysToTruth_82 : decode cX2_waysToTruth 82 = .ok (.invokestatic 31, 3) := by decide +kernel
theorem dX2_waysToTruth_85 : decode cX2_waysToTruth 85 = .ok (.imul, 1) := by decide +kernel
theorem dX2_waysToTruth_86 : decode cX2_waysToTruth 86 = .ok (.bipush 10, 2) := by decide +kernel
theorem dX2_waysToTruth_88 : decode cX2_waysToTruth 88 = .ok (.iload 4, 2) := by decide +kernel
theorem dX2_waysToTruth_90 : decode cX2_waysToTruth 90 = .ok (.isub, 1) := by decide +kernel
theorem dX2_waysToTruth_91 : decode cX2_waysToTruth 91 = .ok (.aload_n 0, 1) := by decide +kernel
theorem dX2_waysToTruth_92 : decode cX2_waysToTruth 92 = .ok (.iload 8, 2) := by decide +kernel
theorem dX2_waysToTruth_94 : decode cX2_waysToTruth 94 = .ok (.iload_n 2, 1) := by decide +kernel
theorem dX2_waysToTruth_95 : decode cX2_waysToTruth 95 = .ok (.iload_n 3, 1) := by decide +kernel
theorem dX2_waysToTruth_96 : decode cX2_waysToTruth 96 = .ok (.iconst 1, 1) := by decide +kernel
theorem dX2_waysToTruth_97 : decode cX2_waysToTruth 97 = .ok (.isub, 1) := by decide +kernel
theorem dX2_waysToTruth_98 : decode cX2_waysToTruth 98 = .ok (.iload 4, 2) := by decide +kernel
theorem dX2_waysToTruth_100 : decode cX2_waysToTruth 100 = .ok (.invokestatic 31, 3) := by decide +kernel
theorem dX2_waysToTruth_103 : decode cX2_waysToTruth 103 = .ok (.imul, 1) := by decide +kernel
theorem dX2_waysToTruth_104 : decode cX2_waysToTruth 104 = .ok (.iadd, 1) := by decide +kernel
theorem dX2_waysToTruth_105 : decode cX2_waysToTruth 105 = .ok (.ireturn, 1) := by decide +kernel
theorem dX2_leastWrong_0 : decode cX2_leastWrong 0 = .ok (.iconst 0, 1) := by decide +kernel
theorem dX2_leastWrong_1 : decode cX2_leastWrong 1 = .ok (.istore_n 2, 1) := by decide +kernel
theorem dX2_leastWrong_2 : decode cX2_leastWrong 2 = .ok (.iload_n 2, 1) := by decide +kernel
theorem dX2_leastWrong_3 : decode cX2_leastWrong 3 = .ok (.aload_n 0, 1) := by decide +kernel
theorem dX2_leastWrong_4 : decode cX2_leastWrong 4 = .ok (.getfield 46, 3) := by decide +kernel
theorem dX2_leastWrong_7 : decode cX2_leastWrong 7 = .ok (.getfield 60, 3) := by decide +kernel
theorem dX2_leastWrong_10 : decode cX2_leastWrong 10 = .ok (.iconst 1, 1) := by decide +kernel
theorem dX2_leastWrong_11 : decode cX2_leastWrong 11 = .ok (.isub, 1) := by decide +kernel
theorem dX2_leastWrong_12 : decode cX2_leastWrong 12 = .ok (.if_icmp .ge 33, 3) := by decide +kernel
theorem dX2_leastWrong_15 : decode cX2_leastWrong 15 = .ok (.aload_n 0, 1) := by decide +kernel
theorem dX2_leastWrong_16 : decode cX2_leastWrong 16 = .ok (.getfield 46, 3) := by decide +kernel
theorem dX2_leastWrong_19 : decode cX2_leastWrong 19 = .ok (.iload_n 1, 1) := by decide +kernel
theorem dX2_leastWrong_20 : decode cX2_leastWrong 20 = .ok (.iload_n 2, 1) := by decide +kernel
theorem dX2_leastWrong_21 : decode cX2_leastWrong 21 = .ok (.invokevirtual 50, 3) := by decide +kernel
theorem dX2_leastWrong_24 : decode cX2_leastWrong 24 = .ok (.aload_n 0, 1) := by decide +kernel
theorem dX2_leastWrong_25 : decode cX2_leastWrong 25 = .ok (.getfield 46, 3) := by decide +kernel
theorem dX2_leastWrong_28 : decode cX2_leastWrong 28 = .ok (.aload_n 0, 1) := by decide +kernel
theorem dX2_leastWrong_29 : decode cX2_leastWrong 29 = .ok (.getfield 35, 3) := by decide +kernel
theorem dX2_leastWrong_32 : decode cX2_leastWrong 32 = .ok (.iload_n 2, 1) := by decide +kernel
theorem dX2_leastWrong_33 : decode cX2_leastWrong 33 = .ok (.invokevirtual 50, 3) := by decide +kernel
theorem dX2_leastWrong_36 : decode cX2_leastWrong 36 = .ok (.if_icmp .ne 9, 3) := by decide +kernel
theorem dX2_leastWrong_39 : decode cX2_leastWrong 39 = .ok (.iinc 2 1, 3) := by decide +kernel
theorem dX2_leastWrong_42 : decode cX2_leastWrong 42 = .ok (.goto (-40), 3) := by decide +kernel
theorem dX2_leastWrong_45 : decode cX2_leastWrong 45 = .ok (.iload_n 2, 1) := by decide +kernel
theorem dX2_leastWrong_46 : decode cX2_leastWrong 46 = .ok (.ireturn, 1) := by decide +kernel
theorem dX2_weighCompositors_0 : decode cX2_weighCompositors 0 = .ok (.aload_n 0, 1) := by decide +kernel
theorem dX2_weighCompositors_1 : decode cX2_weighCompositors 1 = .ok (.aload_n 1, 1) := by decide +kernel
theorem dX2_weighCompositors_2 : decode cX2_weighCompositors 2 = .ok (.getfield 63, 3) := by decide +kernel
theorem dX2_weighCompositors_5 : decode cX2_weighCompositors 5 = .ok (.iconst 3, 1) := by decide +kernel
theorem dX2_weighCompositors_6 : decode cX2_weighCompositors 6 = .ok (.invokestatic 66, 3) := by decide +kernel
theorem dX2_weighCompositors_9 : decode cX2_weighCompositors 9 = .ok (.putfield 71, 3) := by decide +kernel
theorem dX2_weighCompositors_12 : decode cX2_weighCompositors 12 = .ok (.aload_n 0, 1) := by decide +kernel
theorem dX2_weighCompositors_13 : decode cX2_weighCompositors 13 = .ok (.aload_n 1, 1) := by decide +kernel
theorem dX2_weighCompositors_14 : decode cX2_weighCompositors 14 = .ok (.aload_n 1, 1) := by decide +kernel
theorem dX2_weighCompositors_15 : decode cX2_weighCompositors 15 = .ok (.getfield 15, 3) := by decide +kernel
theorem dX2_weighCompositors_18 : decode cX2_weighCompositors 18 = .ok (.invokevirtual 21, 3) := by decide +kernel
theorem dX2_weighCompositors_21 : decode cX2_weighCompositors 21 = .ok (.invokevirtual 72, 3) := by decide +kernel
theorem dX2_weighCompositors_24 : decode cX2_weighCompositors 24 = .ok (.putfield 75, 3) := by decide +kernel
theorem dX2_weighCompositors_27 : decode cX2_weighCompositors 27 = .ok (.iconst 0, 1) := by decide +kernel
theorem dX2_weighCompositors_28 : decode cX2_weighCompositors 28 = .ok (.istore_n 2, 1) := by decide +kernel
theorem dX2_weighCompositors_29 : decode cX2_weighCompositors 29 = .ok (.iload_n 2, 1) := by decide +kernel
theorem dX2_weighCompositors_30 : decode cX2_weighCompositors 30 = .ok (.aload_n 0, 1) := by decide +kernel
theorem dX2_weighCompositors_31 : decode cX2_weighCompositors 31 = .ok (.getfield 71, 3) := by decide +kernel
theorem dX2_weighCompositors_34 : decode cX2_weighCompositors 34 = .ok (.if_icmp .ge 29, 3) := by decide +kernel
theorem dX2_weighCompositors_37 : decode cX2_weighCompositors 37 = .ok (.iload_n 2, 1) := by decide +kernel
theorem dX2_weighCompositors_38 : decode cX2_weighCompositors 38 = .ok (.aload_n 0, 1) := by decide +kernel
theorem dX2_weighCompositors_39 : decode cX2_weighCompositors 39 = .ok (.getfield 9, 3) := by decide +kernel
theorem dX2_weighCompositors_42 : decode cX2_weighCompositors 42 = .ok (.arraylength, 1) := by decide +kernel
theorem dX2_weighCompositors_43 : decode cX2_weighCompositors 43 = .ok (.if_icmp .ge 20, 3) := by decide +kernel
theorem dX2_weighCompositors_46 : decode cX2_weighCompositors 46 = .ok (.aload_n 0, 1) := by decide +kernel
theorem dX2_weighCompositors_47 : decode cX2_weighCompositors 47 = .ok (.getfield 9, 3) := by decide +kernel
theorem dX2_weighCompositors_50 : decode cX2_weighCompositors 50 = .ok (.iload_n 2, 1) := by decide +kernel
theorem dX2_weighCompositors_51 : decode cX2_weighCompositors 51 = .ok (.aload_n 1, 1) := by decide +kernel
theorem dX2_weighCompositors_52 : decode cX2_weighCompositors 52 = .ok (.iload_n 2, 1) := by decide +kernel
theorem dX2_weighCompositors_53 : decode cX2_weighCompositors 53 = .ok (.invokestatic 78, 3) := by decide +kernel
theorem dX2_weighCompositors_56 : decode cX2_weighCompositors 56 = .ok (.iastore, 1) := by decide +kernel
theorem dX2_weighCompositors_57 : decode cX2_weighCompositors 57 = .ok (.iinc 2 1, 3) := by decide +kernel
theorem dX2_weighCompositors_60 : decode cX2_weighCompositors 60 = .ok (.goto (-31), 3) := by decide +kernel
theorem dX2_weighCompositors_63 : decode cX2_weighCompositors 63 = .ok (.return_, 1) := by decide +kernel
theorem dX2_mostRightBy_0 : decode cX2_mostRightBy 0 = .ok (.iconst 0, 1) := by decide +kernel
theorem dX2_mostRightBy_1 : decode cX2_mostRightBy 1 = .ok (.istore_n 2, 1) := by decide +kernel
theorem dX2_mostRightBy_2 : decode cX2_mostRightBy 2 = .ok (.iconst 0, 1) := by decide +kernel
theorem dX2_mostRightBy_3 : decode cX2_mostRightBy 3 = .ok (.istore_n 3, 1) := by decide +kernel
theorem dX2_mostRightBy_4 : decode cX2_mostRightBy 4 = .ok (.iload_n 3, 1) := by decide +kernel
theorem dX2_mostRightBy_5 : decode cX2_mostRightBy 5 = .ok (.aload_n 0, 1) := by decide +kernel
theorem dX2_mostRightBy_6 : decode cX2_mostRightBy 6 = .ok (.getfield 46, 3) := by decide +kernel
theorem dX2_mostRightBy_9 : decode cX2_mostRightBy 9 = .ok (.getfield 60, 3) := by decide +kernel
theorem dX2_mostRightBy_12 : decode cX2_mostRightBy 12 = .ok (.if_icmp .ge 48, 3) := by decide +kernel
theorem dX2_mostRightBy_15 : decode cX2_mostRightBy 15 = .ok (.iconst 0, 1) := by decide +kernel
theorem dX2_mostRightBy_16 : decode cX2_mostRightBy 16 = .ok (.istore 4, 2) := by decide +kernel
theorem dX2_mostRightBy_18 : decode cX2_mostRightBy 18 = .ok (.iload 4, 2) := by decide +kernel
theorem dX2_mostRightBy_20 : decode cX2_mostRightBy 20 = .ok (.iconst 4, 1) := by decide +kernel
theorem dX2_mostRightBy_21 : decode cX2_mostRightBy 21 = .ok (.if_icmp .ge 33, 3) := by decide +kernel
theorem dX2_mostRightBy_24 : decode cX2_mostRightBy 24 = .ok (.iload_n 2, 1) := by decide +kernel
theorem dX2_mostRightBy_25 : decode cX2_mostRightBy 25 = .ok (.aload_n 0, 1) := by decide +kernel
theorem dX2_mostRightBy_26 : decode cX2_mostRightBy 26 = .ok (.aload_n 0, 1) := by decide +kernel
theorem dX2_mostRightBy_27 : decode cX2_mostRightBy 27 = .ok (.iload_n 1, 1) := by decide +kernel
theorem dX2_mostRightBy_28 : decode cX2_mostRightBy 28 = .ok (.aload_n 0, 1) := by decide +kernel
theorem dX2_mostRightBy_29 : decode cX2_mostRightBy 29 = .ok (.getfield 15, 3) := by decide +kernel
theorem dX2_mostRightBy_32 : decode cX2_mostRightBy 32 = .ok (.invokevirtual 21, 3) := by decide +kernel
theorem dX2_mostRightBy_35 : decode cX2_mostRightBy 35 = .ok (.iload_n 3, 1) := by decide +kernel
theorem dX2_mostRightBy_36 : decode cX2_mostRightBy 36 = .ok (.iload 4, 2) := by decide +kernel
theorem dX2_mostRightBy_38 : decode cX2_mostRightBy 38 = .ok (.invokevirtual 81, 3) := by decide +kernel
theorem dX2_mostRightBy_41 : decode cX2_mostRightBy 41 = .ok (.invokevirtual 72, 3) := by decide +kernel
theorem dX2_mostRightBy_44 : decode cX2_mostRightBy 44 = .ok (.invokestatic 82, 3) := by decide +kernel
theorem dX2_mostRightBy_47 : decode cX2_mostRightBy 47 = .ok (.istore_n 2, 1) := by decide +kernel
theorem dX2_mostRightBy_48 : decode cX2_mostRightBy 48 = .ok (.iinc 4 1, 3) := by decide +kernel
theorem dX2_mostRightBy_51 : decode cX2_mostRightBy 51 = .ok (.goto (-33), 3) := by decide +kernel
theorem dX2_mostRightBy_54 : decode cX2_mostRightBy 54 = .ok (.iinc 3 1, 3) := by decide +kernel
theorem dX2_mostRightBy_57 : decode cX2_mostRightBy 57 = .ok (.goto (-53), 3) := by decide +kernel
theorem dX2_mostRightBy_60 : decode cX2_mostRightBy 60 = .ok (.iload_n 2, 1) := by decide +kernel
theorem dX2_mostRightBy_61 : decode cX2_mostRightBy 61 = .ok (.ireturn, 1) := by decide +kernel
theorem dX2_mostRightOf_0 : decode cX2_mostRightOf 0 = .ok (.aload_n 0, 1) := by decide +kernel
theorem dX2_mostRightOf_1 : decode cX2_mostRightOf 1 = .ok (.getfield 75, 3) := by decide +kernel
theorem dX2_mostRightOf_4 : decode cX2_mostRightOf 4 = .ok (.istore_n 2, 1) := by decide +kernel
theorem dX2_mostRightOf_5 : decode cX2_mostRightOf 5 = .ok (.iconst 0, 1) := by decide +kernel
theorem dX2_mostRightOf_6 : decode cX2_mostRightOf 6 = .ok (.istore_n 3, 1) := by decide +kernel
theorem dX2_mostRightOf_7 : decode cX2_mostRightOf 7 = .ok (.iload_n 3, 1) := by decide +kernel
theorem dX2_mostRightOf_8 : decode cX2_mostRightOf 8 = .ok (.aload_n 0, 1) := by decide +kernel
theorem dX2_mostRightOf_9 : decode cX2_mostRightOf 9 = .ok (.getfield 71, 3) := by decide +kernel
theorem dX2_mostRightOf_12 : decode cX2_mostRightOf 12 = .ok (.if_icmp .ge 38, 3) := by decide +kernel
theorem dX2_mostRightOf_15 : decode cX2_mostRightOf 15 = .ok (.iload_n 3, 1) := by decide +kernel
theorem dX2_mostRightOf_16 : decode cX2_mostRightOf 16 = .ok (.aload_n 0, 1) := by decide +kernel
theorem dX2_mostRightOf_17 : decode cX2_mostRightOf 17 = .ok (.getfield 9, 3) := by decide +kernel
theorem dX2_mostRightOf_20 : decode cX2_mostRightOf 20 = .ok (.arraylength, 1) := by decide +kernel
theorem dX2_mostRightOf_21 : decode cX2_mostRightOf 21 = .ok (.if_icmp .ge 29, 3) := by decide +kernel
theorem dX2_mostRightOf_24 : decode cX2_mostRightOf 24 = .ok (.iload_n 1, 1) := by decide +kernel
theorem dX2_mostRightOf_25 : decode cX2_mostRightOf 25 = .ok (.iload_n 3, 1) := by decide +kernel
theorem dX2_mostRightOf_26 : decode cX2_mostRightOf 26 = .ok (.ishr, 1) := by decide +kernel
theorem dX2_mostRightOf_27 : decode cX2_mostRightOf 27 = .ok (.iconst 1, 1) := by decide +kernel
theorem dX2_mostRightOf_28 : decode cX2_mostRightOf 28 = .ok (.iand, 1) := by decide +kernel
theorem dX2_mostRightOf_29 : decode cX2_mostRightOf 29 = .ok (.iconst 1, 1) := by decide +kernel
theorem dX2_mostRightOf_30 : decode cX2_mostRightOf 30 = .ok (.if_icmp .ne 14, 3) := by decide +kernel
theorem dX2_mostRightOf_33 : decode cX2_mostRightOf 33 = .ok (.iload_n 2, 1) := by decide +kernel
theorem dX2_mostRightOf_34 : decode cX2_mostRightOf 34 = .ok (.aload_n 0, 1) := by decide +kernel
theorem dX2_mostRightOf_35 : decode cX2_mostRightOf 35 = .ok (.getfield 9, 3) := by decide +kernel
theorem dX2_mostRightOf_38 : decode cX2_mostRightOf 38 = .ok (.iload_n 3, 1) := by decide +kernel
theorem dX2_mostRightOf_39 : decode cX2_mostRightOf 39 = .ok (.iaload, 1) := by decide +kernel
theorem dX2_mostRightOf_40 : decode cX2_mostRightOf 40 = .ok (.invokestatic 82, 3) := by decide +kernel
theorem dX2_mostRightOf_43 : decode cX2_mostRightOf 43 = .ok (.istore_n 2, 1) := by decide +kernel
theorem dX2_mostRightOf_44 : decode cX2_mostRightOf 44 = .ok (.iinc 3 1, 3) := by decide +kernel
theorem dX2_mostRightOf_47 : decode cX2_mostRightOf 47 = .ok (.goto (-40), 3) := by decide +kernel
theorem dX2_mostRightOf_50 : decode cX2_mostRightOf 50 = .ok (.iload_n 2, 1) := by decide +kernel
theorem dX2_mostRightOf_51 : decode cX2_mostRightOf 51 = .ok (.ireturn, 1) := by decide +kernel
theorem dX2_gainInOrders_0 : decode cX2_gainInOrders 0 = .ok (.iconst 0, 1) := by decide +kernel
theorem dX2_gainInOrders_1 : decode cX2_gainInOrders 1 = .ok (.istore_n 2, 1) := by decide +kernel
theorem dX2_gainInOrders_2 : decode cX2_gainInOrders 2 = .ok (.iconst 0, 1) := by decide +kernel
theorem dX2_gainInOrders_3 : decode cX2_gainInOrders 3 = .ok (.istore_n 3, 1) := by decide +kernel
theorem dX2_gainInOrders_4 : decode cX2_gainInOrders 4 = .ok (.iload_n 3, 1) := by decide +kernel
theorem dX2_gainInOrders_5 : decode cX2_gainInOrders 5 = .ok (.iconst 1, 1) := by decide +kernel
theorem dX2_gainInOrders_6 : decode cX2_gainInOrders 6 = .ok (.aload_n 0, 1) := by decide +kernel
theorem dX2_gainInOrders_7 : decode cX2_gainInOrders 7 = .ok (.getfield 71, 3) := by decide +kernel
theorem dX2_gainInOrders_10 : decode cX2_gainInOrders 10 = .ok (.ishl, 1) := by decide +kernel
theorem dX2_gainInOrders_11 : decode cX2_gainInOrders 11 = .ok (.if_icmp .ge 64, 3) := by decide +kernel
theorem dX2_gainInOrders_14 : decode cX2_gainInOrders 14 = .ok (.iload_n 3, 1) := by decide +kernel
theorem dX2_gainInOrders_15 : decode cX2_gainInOrders 15 = .ok (.iload_n 1, 1) := by decide +kernel
theorem dX2_gainInOrders_16 : decode cX2_gainInOrders 16 = .ok (.ishr, 1) := by decide +kernel
theorem dX2_gainInOrders_17 : decode cX2_gainInOrders 17 = .ok (.iconst 1, 1) := by decide +kernel
theorem dX2_gainInOrders_18 : decode cX2_gainInOrders 18 = .ok (.iand, 1) := by decide +kernel
theorem dX2_gainInOrders_19 : decode cX2_gainInOrders 19 = .ok (.ifCond .ne 50, 3) := by decide +kernel
theorem dX2_gainInOrders_22 : decode cX2_gainInOrders 22 = .ok (.iload_n 3, 1) := by decide +kernel
theorem dX2_gainInOrders_23 : decode cX2_gainInOrders 23 = .ok (.invokestatic 85, 3) := by decide +kernel
theorem dX2_gainInOrders_26 : decode cX2_gainInOrders 26 = .ok (.istore 4, 2) := by decide +kernel
theorem dX2_gainInOrders_28 : decode cX2_gainInOrders 28 = .ok (.iload 4, 2) := by decide +kernel
theorem dX2_gainInOrders_30 : decode cX2_gainInOrders 30 = .ok (.invokestatic 90, 3) := by decide +kernel
theorem dX2_gainInOrders_33 : decode cX2_gainInOrders 33 = .ok (.aload_n 0, 1) := by decide +kernel
theorem dX2_gainInOrders_34 : decode cX2_gainInOrders 34 = .ok (.getfield 71, 3) := by decide +kernel
theorem dX2_gainInOrders_37 : decode cX2_gainInOrders 37 = .ok (.iconst 1, 1) := by decide +kernel
theorem dX2_gainInOrders_38 : decode cX2_gainInOrders 38 = .ok (.isub, 1) := by decide +kernel
theorem dX2_gainInOrders_39 : decode cX2_gainInOrders 39 = .ok (.iload 4, 2) := by decide +kernel
theorem dX2_gainInOrders_41 : decode cX2_gainInOrders 41 = .ok (.isub, 1) := by decide +kernel
theorem dX2_gainInOrders_42 : decode cX2_gainInOrders 42 = .ok (.invokestatic 90, 3) := by decide +kernel
theorem dX2_gainInOrders_45 : decode cX2_gainInOrders 45 = .ok (.imul, 1) := by decide +kernel
theorem dX2_gainInOrders_46 : decode cX2_gainInOrders 46 = .ok (.istore 5, 2) := by decide +kernel
theorem dX2_gainInOrders_48 : decode cX2_gainInOrders 48 = .ok (.iload_n 2, 1) := by decide +kernel
theorem dX2_gainInOrders_49 : decode cX2_gainInOrders 49 = .ok (.iload 5, 2) := by decide +kernel
theorem dX2_gainInOrders_51 : decode cX2_gainInOrders 51 = .ok (.aload_n 0, 1) := by decide +kernel
theorem dX2_gainInOrders_52 : decode cX2_gainInOrders 52 = .ok (.iload_n 3, 1) := by decide +kernel
theorem dX2_gainInOrders_53 : decode cX2_gainInOrders 53 = .ok (.iconst 1, 1) := by decide +kernel
theorem dX2_gainInOrders_54 : decode cX2_gainInOrders 54 = .ok (.iload_n 1, 1) := by decide +kernel
theorem dX2_gainInOrders_55 : decode cX2_gainInOrders 55 = .ok (.ishl, 1) := by decide +kernel
theorem dX2_gainInOrders_56 : decode cX2_gainInOrders 56 = .ok (.ior, 1) := by decide +kernel
theorem dX2_gainInOrders_57 : decode cX2_gainInOrders 57 = .ok (.invokevirtual 93, 3) := by decide +kernel
theorem dX2_gainInOrders_60 : decode cX2_gainInOrders 60 = .ok (.aload_n 0, 1) := by decide +kernel
theorem dX2_gainInOrders_61 : decode cX2_gainInOrders 61 = .ok (.iload_n 3, 1) := by decide +kernel
theorem dX2_gainInOrders_62 : decode cX2_gainInOrders 62 = .ok (.invokevirtual 93, 3) := by decide +kernel
theorem dX2_gainInOrders_65 : decode cX2_gainInOrders 65 = .ok (.isub, 1) := by decide +kernel
theorem dX2_gainInOrders_66 : decode cX2_gainInOrders 66 = .ok (.imul, 1) := by decide +kernel
theorem dX2_gainInOrders_67 : decode cX2_gainInOrders 67 = .ok (.iadd, 1) := by decide +kernel
theorem dX2_gainInOrders_68 : decode cX2_gainInOrders 68 = .ok (.istore_n 2, 1) := by decide +kernel
theorem dX2_gainInOrders_69 : decode cX2_gainInOrders 69 = .ok (.iinc 3 1, 3) := by decide +kernel
theorem dX2_gainInOrders_72 : decode cX2_gainInOrders 72 = .ok (.goto (-68), 3) := by decide +kernel
theorem dX2_gainInOrders_75 : decode cX2_gainInOrders 75 = .ok (.iload_n 2, 1) := by decide +kernel
theorem dX2_gainInOrders_76 : decode cX2_gainInOrders 76 = .ok (.ireturn, 1) := by decide +kernel
theorem dX2_orders_0 : decode cX2_orders 0 = .ok (.aload_n 0, 1) := by decide +kernel
theorem dX2_orders_1 : decode cX2_orders 1 = .ok (.getfield 71, 3) := by decide +kernel
theorem dX2_orders_4 : decode cX2_orders 4 = .ok (.invokestatic 90, 3) := by decide +kernel
theorem dX2_orders_7 : decode cX2_orders 7 = .ok (.ireturn, 1) := by decide +kernel
theorem dX2_ordersOf_0 : decode cX2_ordersOf 0 = .ok (.iload_n 0, 1) := by decide +kernel
theorem dX2_ordersOf_1 : decode cX2_ordersOf 1 = .ok (.ifCond .lt 19, 3) := by decide +kernel
theorem dX2_ordersOf_4 : decode cX2_ordersOf 4 = .ok (.iload_n 0, 1) := by decide +kernel
theorem dX2_ordersOf_5 : decode cX2_ordersOf 5 = .ok (.getstatic 96, 3) := by decide +kernel
theorem dX2_ordersOf_8 : decode cX2_ordersOf 8 = .ok (.arraylength, 1) := by decide +kernel
theorem dX2_ordersOf_9 : decode cX2_ordersOf 9 = .ok (.if_icmp .ge 11, 3) := by decide +kernel
theorem dX2_ordersOf_12 : decode cX2_ordersOf 12 = .ok (.getstatic 96, 3) := by decide +kernel
theorem dX2_ordersOf_15 : decode cX2_ordersOf 15 = .ok (.iload_n 0, 1) := by decide +kernel
theorem dX2_ordersOf_16 : decode cX2_ordersOf 16 = .ok (.iaload, 1) := by decide +kernel
theorem dX2_ordersOf_17 : decode cX2_ordersOf 17 = .ok (.goto 4, 3) := by decide +kernel
theorem dX2_ordersOf_20 : decode cX2_ordersOf 20 = .ok (.iconst 1, 1) := by decide +kernel
theorem dX2_ordersOf_21 : decode cX2_ordersOf 21 = .ok (.ireturn, 1) := by decide +kernel
theorem dX2_inLeastTerms_0 : decode cX2_inLeastTerms 0 = .ok (.iload_n 0, 1) := by decide +kernel
theorem dX2_inLeastTerms_1 : decode cX2_inLeastTerms 1 = .ok (.istore_n 3, 1) := by decide +kernel
theorem dX2_inLeastTerms_2 : decode cX2_inLeastTerms 2 = .ok (.iload_n 1, 1) := by decide +kernel
theorem dX2_inLeastTerms_3 : decode cX2_inLeastTerms 3 = .ok (.istore 4, 2) := by decide +kernel
theorem dX2_inLeastTerms_5 : decode cX2_inLeastTerms 5 = .ok (.iconst 0, 1) := by decide +kernel
theorem dX2_inLeastTerms_6 : decode cX2_inLeastTerms 6 = .ok (.istore 5, 2) := by decide +kernel
theorem dX2_inLeastTerms_8 : decode cX2_inLeastTerms 8 = .ok (.iload 5, 2) := by decide +kernel
theorem dX2_inLeastTerms_10 : decode cX2_inLeastTerms 10 = .ok (.bipush 64, 2) := by decide +kernel
theorem dX2_inLeastTerms_12 : decode cX2_inLeastTerms 12 = .ok (.if_icmp .ge 27, 3) := by decide +kernel
theorem dX2_inLeastTerms_15 : decode cX2_inLeastTerms 15 = .ok (.iload 4, 2) := by decide +kernel
theorem dX2_inLeastTerms_17 : decode cX2_inLeastTerms 17 = .ok (.ifCond .eq 22, 3) := by decide +kernel
theorem dX2_inLeastTerms_20 : decode cX2_inLeastTerms 20 = .ok (.iload_n 3, 1) := by decide +kernel
theorem dX2_inLeastTerms_21 : decode cX2_inLeastTerms 21 = .ok (.iload 4, 2) := by decide +kernel
theorem dX2_inLeastTerms_23 : decode cX2_inLeastTerms 23 = .ok (.irem, 1) := by decide +kernel
theorem dX2_inLeastTerms_24 : decode cX2_inLeastTerms 24 = .ok (.istore 6, 2) := by decide +kernel
theorem dX2_inLeastTerms_26 : decode cX2_inLeastTerms 26 = .ok (.iload 4, 2) := by decide +kernel
theorem dX2_inLeastTerms_28 : decode cX2_inLeastTerms 28 = .ok (.istore_n 3, 1) := by decide +kernel
theorem dX2_inLeastTerms_29 : decode cX2_inLeastTerms 29 = .ok (.iload 6, 2) := by decide +kernel
theorem dX2_inLeastTerms_31 : decode cX2_inLeastTerms 31 = .ok (.istore 4, 2) := by decide +kernel
theorem dX2_inLeastTerms_33 : decode cX2_inLeastTerms 33 = .ok (.iinc 5 1, 3) := by decide +kernel
theorem dX2_inLeastTerms_36 : decode cX2_inLeastTerms 36 = .ok (.goto (-28), 3) := by decide +kernel
theorem dX2_inLeastTerms_39 : decode cX2_inLeastTerms 39 = .ok (.iload_n 2, 1) := by decide +kernel
theorem dX2_inLeastTerms_40 : decode cX2_inLeastTerms 40 = .ok (.ifCond .eq 7, 3) := by decide +kernel
theorem dX2_inLeastTerms_43 : decode cX2_inLeastTerms 43 = .ok (.iload_n 0, 1) := by decide +kernel
theorem dX2_inLeastTerms_44 : decode cX2_inLeastTerms 44 = .ok (.goto 4, 3) := by decide +kernel
theorem dX2_inLeastTerms_47 : decode cX2_inLeastTerms 47 = .ok (.iload_n 1, 1) := by decide +kernel
theorem dX2_inLeastTerms_48 : decode cX2_inLeastTerms 48 = .ok (.istore 5, 2) := by decide +kernel
theorem dX2_inLeastTerms_50 : decode cX2_inLeastTerms 50 = .ok (.iload_n 3, 1) := by decide +kernel
theorem dX2_inLeastTerms_51 : decode cX2_inLeastTerms 51 = .ok (.ifCond .eq 10, 3) := by decide +kernel
theorem dX2_inLeastTerms_54 : decode cX2_inLeastTerms 54 = .ok (.iload 5, 2) := by decide +kernel
theorem dX2_inLeastTerms_56 : decode cX2_inLeastTerms 56 = .ok (.iload_n 3, 1) := by decide +kernel
theorem dX2_inLeastTerms_57 : decode cX2_inLeastTerms 57 = .ok (.idiv, 1) := by decide +kernel
theorem dX2_inLeastTerms_58 : decode cX2_inLeastTerms 58 = .ok (.goto 5, 3) := by decide +kernel
theorem dX2_inLeastTerms_61 : decode cX2_inLeastTerms 61 = .ok (.iload 5, 2) := by decide +kernel
theorem dX2_inLeastTerms_63 : decode cX2_inLeastTerms 63 = .ok (.ireturn, 1) := by decide +kernel
theorem dX3_init_0 : decode cX3_init 0 = .ok (.aload_n 0, 1) := by decide +kernel
theorem dX3_init_1 : decode cX3_init 1 = .ok (.invokespecial 1, 3) := by decide +kernel
theorem dX3_init_4 : decode cX3_init 4 = .ok (.aload_n 0, 1) := by decide +kernel
theorem dX3_init_5 : decode cX3_init 5 = .ok (.new 7, 3) := by decide +kernel
theorem dX3_init_8 : decode cX3_init 8 = .ok (.dup, 1) := by decide +kernel
theorem dX3_init_9 : decode cX3_init 9 = .ok (.bipush 14, 2) := by decide +kernel
theorem dX3_init_11 : decode cX3_init 11 = .ok (.invokespecial 11, 3) := by decide +kernel
theorem dX3_init_14 : decode cX3_init 14 = .ok (.putfield 14, 3) := by decide +kernel
theorem dX3_init_17 : decode cX3_init 17 = .ok (.aload_n 0, 1) := by decide +kernel
theorem dX3_init_18 : decode cX3_init 18 = .ok (.iconst 0, 1) := by decide +kernel
theorem dX3_init_19 : decode cX3_init 19 = .ok (.putfield 18, 3) := by decide +kernel
theorem dX3_init_22 : decode cX3_init 22 = .ok (.aload_n 0, 1) := by decide +kernel
theorem dX3_init_23 : decode cX3_init 23 = .ok (.iconst 0, 1) := by decide +kernel
theorem dX3_init_24 : decode cX3_init 24 = .ok (.putfield 22, 3) := by decide +kernel
theorem dX3_init_27 : decode cX3_init 27 = .ok (.return_, 1) := by decide +kernel
theorem dX3_note_0 : decode cX3_note 0 = .ok (.aload_n 0, 1) := by decide +kernel
theorem dX3_note_1 : decode cX3_note 1 = .ok (.getfield 14, 3) := by decide +kernel
theorem dX3_note_4 : decode cX3_note 4 = .ok (.aload_n 0, 1) := by decide +kernel
theorem dX3_note_5 : decode cX3_note 5 = .ok (.getfield 18, 3) := by decide +kernel
theorem dX3_note_8 : decode cX3_note 8 = .ok (.bipush 14, 2) := by decide +kernel
theorem dX3_note_10 : decode cX3_note 10 = .ok (.irem, 1) := by decide +kernel
theorem dX3_note_11 : decode cX3_note 11 = .ok (.aload_n 1, 1) := by decide +kernel
theorem dX3_note_12 : decode cX3_note 12 = .ok (.invokevirtual 25, 3) := by decide +kernel
theorem dX3_note_15 : decode cX3_note 15 = .ok (.aload_n 0, 1) := by decide +kernel
theorem dX3_note_16 : decode cX3_note 16 = .ok (.dup, 1) := by decide +kernel
theorem dX3_note_17 : decode cX3_note 17 = .ok (.getfield 18, 3) := by decide +kernel
theorem dX3_note_20 : decode cX3_note 20 = .ok (.iconst 1, 1) := by decide +kernel
theorem dX3_note_21 : decode cX3_note 21 = .ok (.iadd, 1) := by decide +kernel
theorem dX3_note_22 : decode cX3_note 22 = .ok (.putfield 18, 3) := by decide +kernel
theorem dX3_note_25 : decode cX3_note 25 = .ok (.aload_n 0, 1) := by decide +kernel
theorem dX3_note_26 : decode cX3_note 26 = .ok (.aload_n 0, 1) := by decide +kernel
theorem dX3_note_27 : decode cX3_note 27 = .ok (.getfield 22, 3) := by decide +kernel
theorem dX3_note_30 : decode cX3_note 30 = .ok (.iconst 1, 1) := by decide +kernel
theorem dX3_note_31 : decode cX3_note 31 = .ok (.iadd, 1) := by decide +kernel
theorem dX3_note_32 : decode cX3_note 32 = .ok (.bipush 14, 2) := by decide +kernel
theorem dX3_note_34 : decode cX3_note 34 = .ok (.invokestatic 29, 3) := by decide +kernel
theorem dX3_note_37 : decode cX3_note 37 = .ok (.putfield 22, 3) := by decide +kernel
theorem dX3_note_40 : decode cX3_note 40 = .ok (.return_, 1) := by decide +kernel
theorem dX3_bringBack_0 : decode cX3_bringBack 0 = .ok (.aload_n 0, 1) := by decide +kernel
theorem dX3_bringBack_1 : decode cX3_bringBack 1 = .ok (.getfield 22, 3) := by decide +kernel
theorem dX3_bringBack_4 : decode cX3_bringBack 4 = .ok (.ifCond .le 10, 3) := by decide +kernel
theorem dX3_bringBack_7 : decode cX3_bringBack 7 = .ok (.aload_n 0, 1) := by decide +kernel
theorem dX3_bringBack_8 : decode cX3_bringBack 8 = .ok (.getfield 18, 3) := by decide +kernel
theorem dX3_bringBack_11 : decode cX3_bringBack 11 = .ok (.ifCond .gt 5, 3) := by decide +kernel
theorem dX3_bringBack_14 : decode cX3_bringBack 14 = .ok (.iconst 0, 1) := by decide +kernel
theorem dX3_bringBack_15 : decode cX3_bringBack 15 = .ok (.ireturn, 1) := by decide +kernel
theorem dX3_bringBack_16 : decode cX3_bringBack 16 = .ok (.aload_n 0, 1) := by decide +kernel
theorem dX3_bringBack_17 : decode cX3_bringBack 17 = .ok (.dup, 1) := by decide +kernel
theorem dX3_bringBack_18 : decode cX3_bringBack 18 = .ok (.getfield 18, 3) := by decide +kernel
theorem dX3_bringBack_21 : decode cX3_bringBack 21 = .ok (.iconst 1, 1) := by decide +kernel
theorem dX3_bringBack_22 : decode cX3_bringBack 22 = .ok (.isub, 1) := by decide +kernel
theorem dX3_bringBack_23 : decode cX3_bringBack 23 = .ok (.putfield 18, 3) := by decide +kernel
theorem dX3_bringBack_26 : decode cX3_bringBack 26 = .ok (.aload_n 0, 1) := by decide +kernel
theorem dX3_bringBack_27 : decode cX3_bringBack 27 = .ok (.dup, 1) := by decide +kernel
theorem dX3_bringBack_28 : decode cX3_bringBack 28 = .ok (.getfield 22, 3) := by decide +kernel
theorem dX3_bringBack_31 : decode cX3_bringBack 31 = .ok (.iconst 1, 1) := by decide +kernel
theorem dX3_bringBack_32 : decode cX3_bringBack 32 = .ok (.isub, 1) := by decide +kernel
theorem dX3_bringBack_33 : decode cX3_bringBack 33 = .ok (.putfield 22, 3) := by decide +kernel
theorem dX3_bringBack_36 : decode cX3_bringBack 36 = .ok (.aload_n 0, 1) := by decide +kernel
theorem dX3_bringBack_37 : decode cX3_bringBack 37 = .ok (.getfield 14, 3) := by decide +kernel
theorem dX3_bringBack_40 : decode cX3_bringBack 40 = .ok (.aload_n 0, 1) := by decide +kernel
theorem dX3_bringBack_41 : decode cX3_bringBack 41 = .ok (.getfield 18, 3) := by decide +kernel
theorem dX3_bringBack_44 : decode cX3_bringBack 44 = .ok (.bipush 14, 2) := by decide +kernel
theorem dX3_bringBack_46 : decode cX3_bringBack 46 = .ok (.irem, 1) := by decide +kernel
theorem dX3_bringBack_47 : decode cX3_bringBack 47 = .ok (.aload_n 1, 1) := by decide +kernel
theorem dX3_bringBack_48 : decode cX3_bringBack 48 = .ok (.invokevirtual 35, 3) := by decide +kernel
theorem dX3_bringBack_51 : decode cX3_bringBack 51 = .ok (.iconst 1, 1) := by decide +kernel
theorem dX3_bringBack_52 : decode cX3_bringBack 52 = .ok (.ireturn, 1) := by decide +kernel
theorem dX3_forget_0 : decode cX3_forget 0 = .ok (.aload_n 0, 1) := by decide +kernel
theorem dX3_forget_1 : decode cX3_forget 1 = .ok (.iconst 0, 1) := by decide +kernel
theorem dX3_forget_2 : decode cX3_forget 2 = .ok (.putfield 18, 3) := by decide +kernel
theorem dX3_forget_5 : decode cX3_forget 5 = .ok (.aload_n 0, 1) := by decide +kernel
theorem dX3_forget_6 : decode cX3_forget 6 = .ok (.iconst 0, 1) := by decide +kernel
theorem dX3_forget_7 : decode cX3_forget 7 = .ok (.putfield 22, 3) := by decide +kernel
theorem dX3_forget_10 : decode cX3_forget 10 = .ok (.return_, 1) := by decide +kernel
theorem dX4_init_0 : decode cX4_init 0 = .ok (.aload_n 0, 1) := by decide +kernel
theorem dX4_init_1 : decode cX4_init 1 = .ok (.invokespecial 3, 3) := by decide +kernel
theorem dX4_init_4 : decode cX4_init 4 = .ok (.aload_n 0, 1) := by decide +kernel
theorem dX4_init_5 : decode cX4_init 5 = .ok (.iconst 4, 1) := by decide +kernel
theorem dX4_init_6 : decode cX4_init 6 = .ok (.newarray .int, 2) := by decide +kernel
theorem dX4_init_8 : decode cX4_init 8 = .ok (.putfield 9, 3) := by decide +kernel
theorem dX4_init_11 : decode cX4_init 11 = .ok (.return_, 1) := by decide +kernel
theorem dX4_search_0 : decode cX4_search 0 = .ok (.aload_n 0, 1) := by decide +kernel
theorem dX4_search_1 : decode cX4_search 1 = .ok (.bipush (-9), 2) := by decide +kernel
theorem dX4_search_3 : decode cX4_search 3 = .ok (.putfield 15, 3) := by decide +kernel
theorem dX4_search_6 : decode cX4_search 6 = .ok (.aload_n 0, 1) := by decide +kernel
theorem dX4_search_7 : decode cX4_search 7 = .ok (.bipush (-9), 2) := by decide +kernel
theorem dX4_search_9 : decode cX4_search 9 = .ok (.putfield 19, 3) := by decide +kernel
theorem dX4_search_12 : decode cX4_search 12 = .ok (.aload_n 1, 1) := by decide +kernel
theorem dX4_search_13 : decode cX4_search 13 = .ok (.iload_n 2, 1) := by decide +kernel
theorem dX4_search_14 : decode cX4_search 14 = .ok (.invokestatic 22, 3) := by decide +kernel
theorem dX4_search_17 : decode cX4_search 17 = .ok (.ifCond .eq 14, 3) := by decide +kernel
theorem dX4_search_20 : decode cX4_search 20 = .ok (.aload_n 0, 1) := by decide +kernel
theorem dX4_search_21 : decode cX4_search 21 = .ok (.iconst 0, 1) := by decide +kernel
theorem dX4_search_22 : decode cX4_search 22 = .ok (.putfield 15, 3) := by decide +kernel
theorem dX4_search_25 : decode cX4_search 25 = .ok (.aload_n 0, 1) := by decide +kernel
theorem dX4_search_26 : decode cX4_search 26 = .ok (.iconst 0, 1) := by decide +kernel
theorem dX4_search_27 : decode cX4_search 27 = .ok (.putfield 19, 3) := by decide +kernel
theorem dX4_search_30 : decode cX4_search 30 = .ok (.return_, 1) := by decide +kernel
theorem dX4_search_31 : decode cX4_search 31 = .ok (.aload_n 0, 1) := by decide +kernel
theorem dX4_search_32 : decode cX4_search 32 = .ok (.aload_n 1, 1) := by decide +kernel
theorem dX4_search_33 : decode cX4_search 33 = .ok (.iload_n 2, 1) := by decide +kernel
theorem dX4_search_34 : decode cX4_search 34 = .ok (.invokevirtual 26, 3) := by decide +kernel
theorem dX4_search_37 : decode cX4_search 37 = .ok (.aload_n 0, 1) := by decide +kernel
theorem dX4_search_38 : decode cX4_search 38 = .ok (.aload_n 1, 1) := by decide +kernel
theorem dX4_search_39 : decode cX4_search 39 = .ok (.aload_n 1, 1) := by decide +kernel
theorem dX4_search_40 : decode cX4_search 40 = .ok (.getfield 30, 3) := by decide +kernel
theorem dX4_search_43 : decode cX4_search 43 = .ok (.invokevirtual 36, 3) := by decide +kernel
theorem dX4_search_46 : decode cX4_search 46 = .ok (.iload_n 2, 1) := by decide +kernel
theorem dX4_search_47 : decode cX4_search 47 = .ok (.aload_n 1, 1) := by decide +kernel
theorem dX4_search_48 : decode cX4_search 48 = .ok (.getfield 30, 3) := by decide +kernel
theorem dX4_search_51 : decode cX4_search 51 = .ok (.invokevirtual 42, 3) := by decide +kernel
theorem dX4_search_54 : decode cX4_search 54 = .ok (.invokevirtual 45, 3) := by decide +kernel
theorem dX4_search_57 : decode cX4_search 57 = .ok (.istore_n 3, 1) := by decide +kernel
theorem dX4_search_58 : decode cX4_search 58 = .ok (.iload_n 3, 1) := by decide +kernel
theorem dX4_search_59 : decode cX4_search 59 = .ok (.bipush (-9), 2) := by decide +kernel
theorem dX4_search_61 : decode cX4_search 61 = .ok (.if_icmp .eq 14, 3) := by decide +kernel
theorem dX4_search_64 : decode cX4_search 64 = .ok (.aload_n 0, 1) := by decide +kernel
theorem dX4_search_65 : decode cX4_search 65 = .ok (.iconst 1, 1) := by decide +kernel
theorem dX4_search_66 : decode cX4_search 66 = .ok (.putfield 15, 3) := by decide +kernel
theorem dX4_search_69 : decode cX4_search 69 = .ok (.aload_n 0, 1) := by decide +kernel
theorem dX4_search_70 : decode cX4_search 70 = .ok (.iload_n 3, 1) := by decide +kernel
theorem dX4_search_71 : decode cX4_search 71 = .ok (.putfield 19, 3) := by decide +kernel
theorem dX4_search_74 : decode cX4_search 74 = .ok (.return_, 1) := by decide +kernel
theorem dX4_search_75 : decode cX4_search 75 = .ok (.aload_n 0, 1) := by decide +kernel
theorem dX4_search_76 : decode cX4_search 76 = .ok (.aload_n 1, 1) := by decide +kernel
theorem dX4_search_77 : decode cX4_search 77 = .ok (.iload_n 2, 1) := by decide +kernel
theorem dX4_search_78 : decode cX4_search 78 = .ok (.invokevirtual 49, 3) := by decide +kernel
theorem dX4_search_81 : decode cX4_search 81 = .ok (.istore 4, 2) := by decide +kernel
theorem dX4_search_83 : decode cX4_search 83 = .ok (.iload 4, 2) := by decide +kernel
theorem dX4_search_85 : decode cX4_search 85 = .ok (.bipush (-9), 2) := by decide +kernel
theorem dX4_search_87 : decode cX4_search 87 = .ok (.if_icmp .eq 14, 3) := by decide +kernel
theorem dX4_search_90 : decode cX4_search 90 = .ok (.aload_n 0, 1) := by decide +kernel
theorem dX4_search_91 : decode cX4_search 91 = .ok (.iconst 2, 1) := by decide +kernel
theorem dX4_search_92 : decode cX4_search 92 = .ok (.putfield 15, 3) := by decide +kernel
theorem dX4_search_95 : decode cX4_search 95 = .ok (.aload_n 0, 1) := by decide +kernel
theorem dX4_search_96 : decode cX4_search 96 = .ok (.iload 4, 2) := by decide +kernel
theorem dX4_search_98 : decode cX4_search 98 = .ok (.putfield 19, 3) := by decide +kernel
theorem dX4_search_101 : decode cX4_search 101 = .ok (.return_, 1) := by decide +kernel
theorem dX4_isRighted_0 : decode cX4_isRighted 0 = .ok (.iconst 1, 1) := by decide +kernel
theorem dX4_isRighted_1 : decode cX4_isRighted 1 = .ok (.iload_n 1, 1) := by decide +kernel
theorem dX4_isRighted_2 : decode cX4_isRighted 2 = .ok (.ishl, 1) := by decide +kernel
theorem dX4_isRighted_3 : decode cX4_isRighted 3 = .ok (.iconst 1, 1) := by decide +kernel
theorem dX4_isRighted_4 : decode cX4_isRighted 4 = .ok (.isub, 1) := by decide +kernel
theorem dX4_isRighted_5 : decode cX4_isRighted 5 = .ok (.istore_n 2, 1) := by decide +kernel
theorem dX4_isRighted_6 : decode cX4_isRighted 6 = .ok (.aload_n 0, 1) := by decide +kernel
theorem dX4_isRighted_7 : decode cX4_isRighted 7 = .ok (.getfield 30, 3) := by decide +kernel
theorem dX4_isRighted_10 : decode cX4_isRighted 10 = .ok (.invokevirtual 36, 3) := by decide +kernel
theorem dX4_isRighted_13 : decode cX4_isRighted 13 = .ok (.aload_n 0, 1) := by decide +kernel
theorem dX4_isRighted_14 : decode cX4_isRighted 14 = .ok (.getfield 53, 3) := by decide +kernel
theorem dX4_isRighted_17 : decode cX4_isRighted 17 = .ok (.if_icmp .ne 17, 3) := by decide +kernel
theorem dX4_isRighted_20 : decode cX4_isRighted 20 = .ok (.aload_n 0, 1) := by decide +kernel
theorem dX4_isRighted_21 : decode cX4_isRighted 21 = .ok (.invokevirtual 56, 3) := by decide +kernel
theorem dX4_isRighted_24 : decode cX4_isRighted 24 = .ok (.iload_n 2, 1) := by decide +kernel
theorem dX4_isRighted_25 : decode cX4_isRighted 25 = .ok (.iand, 1) := by decide +kernel
theorem dX4_isRighted_26 : decode cX4_isRighted 26 = .ok (.iload_n 2, 1) := by decide +kernel
theorem dX4_isRighted_27 : decode cX4_isRighted 27 = .ok (.if_icmp .ne 7, 3) := by decide +kernel
theorem dX4_isRighted_30 : decode cX4_isRighted 30 = .ok (.iconst 1, 1) := by decide +kernel
theorem dX4_isRighted_31 : decode cX4_isRighted 31 = .ok (.goto 4, 3) := by decide +kernel
theorem dX4_isRighted_34 : decode cX4_isRighted 34 = .ok (.iconst 0, 1) := by decide +kernel
theorem dX4_isRighted_35 : decode cX4_isRighted 35 = .ok (.ireturn, 1) := by decide +kernel
theorem dX4_readBeliefs_0 : decode cX4_readBeliefs 0 = .ok (.iconst 0, 1) := by decide +kernel
theorem dX4_readBeliefs_1 : decode cX4_readBeliefs 1 = .ok (.istore_n 3, 1) := by decide +kernel
theorem dX4_readBeliefs_2 : decode cX4_readBeliefs 2 = .ok (.iload_n 3, 1) := by decide +kernel
theorem dX4_readBeliefs_3 : decode cX4_readBeliefs 3 = .ok (.iload_n 2, 1) := by decide +kernel
theorem dX4_readBeliefs_4 : decode cX4_readBeliefs 4 = .ok (.if_icmp .ge 32, 3) := by decide +kernel
theorem dX4_readBeliefs_7 : decode cX4_readBeliefs 7 = .ok (.iload_n 3, 1) := by decide +kernel
theorem dX4_readBeliefs_8 : decode cX4_readBeliefs 8 = .ok (.aload_n 0, 1) := by decide +kernel
theorem dX4_readBeliefs_9 : decode cX4_readBeliefs 9 = .ok (.getfield 9, 3) := by decide +kernel
theorem dX4_readBeliefs_12 : decode cX4_readBeliefs 12 = .ok (.arraylength, 1) := by decide +kernel
theorem dX4_readBeliefs_13 : decode cX4_readBeliefs 13 = .ok (.if_icmp .ge 23, 3) := by decide +kernel
theorem dX4_readBeliefs_16 : decode cX4_readBeliefs 16 = .ok (.aload_n 0, 1) := by decide +kernel
theorem dX4_readBeliefs_17 : decode cX4_readBeliefs 17 = .ok (.getfield 9, 3) := by decide +kernel
theorem dX4_readBeliefs_20 : decode cX4_readBeliefs 20 = .ok (.iload_n 3, 1) := by decide +kernel
theorem dX4_readBeliefs_21 : decode cX4_readBeliefs 21 = .ok (.aload_n 1, 1) := by decide +kernel
theorem dX4_readBeliefs_22 : decode cX4_readBeliefs 22 = .ok (.getfield 30, 3) := by decide +kernel
theorem dX4_readBeliefs_25 : decode cX4_readBeliefs 25 = .ok (.iload_n 3, 1) := by decide +kernel
theorem dX4_readBeliefs_26 : decode cX4_readBeliefs 26 = .ok (.invokevirtual 59, 3) := by decide +kernel
theorem dX4_readBeliefs_29 : decode cX4_readBeliefs 29 = .ok (.iastore, 1) := by decide +kernel
theorem dX4_readBeliefs_30 : decode cX4_readBeliefs 30 = .ok (.iinc 3 1, 3) := by decide +kernel
theorem dX4_readBeliefs_33 : decode cX4_readBeliefs 33 = .ok (.goto (-31), 3) := by decide +kernel
theorem dX4_readBeliefs_36 : decode cX4_readBeliefs 36 = .ok (.return_, 1) := by decide +kernel
theorem dX4_twoNotices_0 : decode cX4_twoNotices 0 = .ok (.aload_n 1, 1) := by decide +kernel
theorem dX4_twoNotices_1 : decode cX4_twoNotices 1 = .ok (.getfield 30, 3) := by decide +kernel
theorem dX4_twoNotices_4 : decode cX4_twoNotices 4 = .ok (.invokevirtual 42, 3) := by decide +kernel
theorem dX4_twoNotices_7 : decode cX4_twoNotices 7 = .ok (.istore_n 3, 1) := by decide +kernel
theorem dX4_twoNotices_8 : decode cX4_twoNotices 8 = .ok (.iconst 0, 1) := by decide +kernel
theorem dX4_twoNotices_9 : decode cX4_twoNotices 9 = .ok (.istore 4, 2) := by decide +kernel
theorem dX4_twoNotices_11 : decode cX4_twoNotices 11 = .ok (.iload 4, 2) := by decide +kernel
theorem dX4_twoNotices_13 : decode cX4_twoNotices 13 = .ok (.aload_n 1, 1) := by decide +kernel
theorem dX4_twoNotices_14 : decode cX4_twoNotices 14 = .ok (.getfield 63, 3) := by decide +kernel
theorem dX4_twoNotices_17 : decode cX4_twoNotices 17 = .ok (.if_icmp .ge 114, 3) := by decide +kernel
theorem dX4_twoNotices_20 : decode cX4_twoNotices 20 = .ok (.iconst 0, 1) := by decide +kernel
theorem dX4_twoNotices_21 : decode cX4_twoNotices 21 = .ok (.istore 5, 2) := by decide +kernel
theorem dX4_twoNotices_23 : decode cX4_twoNotices 23 = .ok (.iload 5, 2) := by decide +kernel
theorem dX4_twoNotices_25 : decode cX4_twoNotices 25 = .ok (.aload_n 1, 1) := by decide +kernel
theorem dX4_twoNotices_26 : decode cX4_twoNotices 26 = .ok (.getfield 66, 3) := by decide +kernel
theorem dX4_twoNotices_29 : decode cX4_twoNotices 29 = .ok (.getfield 70, 3) := by decide +kernel
theorem dX4_twoNotices_32 : decode cX4_twoNotices 32 = .ok (.if_icmp .ge 93, 3) := by decide +kernel
theorem dX4_twoNotices_35 : decode cX4_twoNotices 35 = .ok (.iconst 0, 1) := by decide +kernel
theorem dX4_twoNotices_36 : decode cX4_twoNotices 36 = .ok (.istore 6, 2) := by decide +kernel
theorem dX4_twoNotices_38 : decode cX4_twoNotices 38 = .ok (.iload 6, 2) := by decide +kernel
theorem dX4_twoNotices_40 : decode cX4_twoNotices 40 = .ok (.iconst 4, 1) := by decide +kernel
theorem dX4_twoNotices_41 : decode cX4_twoNotices 41 = .ok (.if_icmp .ge 78, 3) := by decide +kernel
theorem dX4_twoNotices_44 : decode cX4_twoNotices 44 = .ok (.aload_n 0, 1) := by decide +kernel
theorem dX4_twoNotices_45 : decode cX4_twoNotices 45 = .ok (.aload_n 1, 1) := by decide +kernel
theorem dX4_twoNotices_46 : decode cX4_twoNotices 46 = .ok (.iload_n 2, 1) := by decide +kernel
theorem dX4_twoNotices_47 : decode cX4_twoNotices 47 = .ok (.iload 4, 2) := by decide +kernel
theorem dX4_twoNotices_49 : decode cX4_twoNotices 49 = .ok (.iload 5, 2) := by decide +kernel
theorem dX4_twoNotices_51 : decode cX4_twoNotices 51 = .ok (.iload 6, 2) := by decide +kernel
theorem dX4_twoNotices_53 : decode cX4_twoNotices 53 = .ok (.invokevirtual 75, 3) := by decide +kernel
theorem dX4_twoNotices_56 : decode cX4_twoNotices 56 = .ok (.aload_n 0, 1) := by decide +kernel
theorem dX4_twoNotices_57 : decode cX4_twoNotices 57 = .ok (.aload_n 1, 1) := by decide +kernel
theorem dX4_twoNotices_58 : decode cX4_twoNotices 58 = .ok (.aload_n 1, 1) := by decide +kernel
theorem dX4_twoNotices_59 : decode cX4_twoNotices 59 = .ok (.iload 4, 2) := by decide +kernel
theorem dX4_twoNotices_61 : decode cX4_twoNotices 61 = .ok (.aload_n 1, 1) := by decide +kernel
theorem dX4_twoNotices_62 : decode cX4_twoNotices 62 = .ok (.getfield 30, 3) := by decide +kernel
theorem dX4_twoNotices_65 : decode cX4_twoNotices 65 = .ok (.invokevirtual 36, 3) := by decide +kernel
theorem dX4_twoNotices_68 : decode cX4_twoNotices 68 = .ok (.iload 5, 2) := by decide +kernel
theorem dX4_twoNotices_70 : decode cX4_twoNotices 70 = .ok (.iload 6, 2) := by decide +kernel
theorem dX4_twoNotices_72 : decode cX4_twoNotices 72 = .ok (.invokevirtual 79, 3) := by decide +kernel
theorem dX4_twoNotices_75 : decode cX4_twoNotices 75 = .ok (.iload_n 2, 1) := by decide +kernel
theorem dX4_twoNotices_76 : decode cX4_twoNotices 76 = .ok (.iload_n 3, 1) := by decide +kernel
theorem dX4_twoNotices_77 : decode cX4_twoNotices 77 = .ok (.iconst 1, 1) := by decide +kernel
theorem dX4_twoNotices_78 : decode cX4_twoNotices 78 = .ok (.iadd, 1) := by decide +kernel
theorem dX4_twoNotices_79 : decode cX4_twoNotices 79 = .ok (.invokevirtual 45, 3) := by decide +kernel
theorem dX4_twoNotices_82 : decode cX4_twoNotices 82 = .ok (.istore 7, 2) := by decide +kernel
theorem dX4_twoNotices_84 : decode cX4_twoNotices 84 = .ok (.iload 7, 2) := by decide +kernel
theorem dX4_twoNotices_86 : decode cX4_twoNotices 86 = .ok (.bipush (-9), 2) := by decide +kernel
theorem dX4_twoNotices_88 : decode cX4_twoNotices 88 = .ok (.if_icmp .eq 25, 3) := by decide +kernel
theorem dX4_twoNotices_91 : decode cX4_twoNotices 91 = .ok (.bipush 100, 2) := by decide +kernel
theorem dX4_twoNotices_93 : decode cX4_twoNotices 93 = .ok (.iload 4, 2) := by decide +kernel
theorem dX4_twoNotices_95 : decode cX4_twoNotices 95 = .ok (.imul, 1) := by decide +kernel
theorem dX4_twoNotices_96 : decode cX4_twoNotices 96 = .ok (.bipush 10, 2) := by decide +kernel
theorem dX4_twoNotices_98 : decode cX4_twoNotices 98 = .ok (.iload 5, 2) := by decide +kernel
theorem dX4_twoNotices_100 : decode cX4_twoNotices 100 = .ok (.imul, 1) := by decide +kernel
theorem dX4_twoNotices_101 : decode cX4_twoNotices 101 = .ok (.iadd, 1) := by decide +kernel
theorem dX4_twoNotices_102 : decode cX4_twoNotices 102 = .ok (.iload 6, 2) := by decide +kernel
theorem dX4_twoNotices_104 : decode cX4_twoNotices 104 = .ok (.iadd, 1) := by decide +kernel
theorem dX4_twoNotices_105 : decode cX4_twoNotices 105 = .ok (.sipush 1000, 3) := by decide +kernel
theorem dX4_twoNotices_108 : decode cX4_twoNotices 108 = .ok (.imul, 1) := by decide +kernel
theorem dX4_twoNotices_109 : decode cX4_twoNotices 109 = .ok (.iload 7, 2) := by decide +kernel
theorem dX4_twoNotices_111 : decode cX4_twoNotices 111 = .ok (.iadd, 1) := by decide +kernel
theorem dX4_twoNotices_112 : decode cX4_twoNotices 112 = .ok (.ireturn, 1) := by decide +kernel
theorem dX4_twoNotices_113 : decode cX4_twoNotices 113 = .ok (.iinc 6 1, 3) := by decide +kernel
theorem dX4_twoNotices_116 : decode cX4_twoNotices 116 = .ok (.goto (-78), 3) := by decide +kernel
theorem dX4_twoNotices_119 : decode cX4_twoNotices 119 = .ok (.iinc 5 1, 3) := by decide +kernel
theorem dX4_twoNotices_122 : decode cX4_twoNotices 122 = .ok (.goto (-99), 3) := by decide +kernel
theorem dX4_twoNotices_125 : decode cX4_twoNotices 125 = .ok (.iinc 4 1, 3) := by decide +kernel
theorem dX4_twoNotices_128 : decode cX4_twoNotices 128 = .ok (.goto (-117), 3) := by decide +kernel
theorem dX4_twoNotices_131 : decode cX4_twoNotices 131 = .ok (.bipush (-9), 2) := by decide +kernel
theorem dX4_twoNotices_133 : decode cX4_twoNotices 133 = .ok (.ireturn, 1) := by decide +kernel
theorem dX4_readAhead_0 : decode cX4_readAhead 0 = .ok (.iconst 0, 1) := by decide +kernel
theorem dX4_readAhead_1 : decode cX4_readAhead 1 = .ok (.istore 6, 2) := by decide +kernel
theorem dX4_readAhead_3 : decode cX4_readAhead 3 = .ok (.iload 6, 2) := by decide +kernel
theorem dX4_readAhead_5 : decode cX4_readAhead 5 = .ok (.iload_n 2, 1) := by decide +kernel
theorem dX4_readAhead_6 : decode cX4_readAhead 6 = .ok (.if_icmp .ge 69, 3) := by decide +kernel
theorem dX4_readAhead_9 : decode cX4_readAhead 9 = .ok (.iload 6, 2) := by decide +kernel
theorem dX4_readAhead_11 : decode cX4_readAhead 11 = .ok (.aload_n 0, 1) := by decide +kernel
theorem dX4_readAhead_12 : decode cX4_readAhead 12 = .ok (.getfield 9, 3) := by decide +kernel
theorem dX4_readAhead_15 : decode cX4_readAhead 15 = .ok (.arraylength, 1) := by decide +kernel
theorem dX4_readAhead_16 : decode cX4_readAhead 16 = .ok (.if_icmp .ge 59, 3) := by decide +kernel
theorem dX4_readAhead_19 : decode cX4_readAhead 19 = .ok (.aload_n 1, 1) := by decide +kernel
theorem dX4_readAhead_20 : decode cX4_readAhead 20 = .ok (.getfield 30, 3) := by decide +kernel
theorem dX4_readAhead_23 : decode cX4_readAhead 23 = .ok (.iload 6, 2) := by decide +kernel
theorem dX4_readAhead_25 : decode cX4_readAhead 25 = .ok (.invokevirtual 59, 3) := by decide +kernel
theorem dX4_readAhead_28 : decode cX4_readAhead 28 = .ok (.istore 7, 2) := by decide +kernel
theorem dX4_readAhead_30 : decode cX4_readAhead 30 = .ok (.aload_n 0, 1) := by decide +kernel
theorem dX4_readAhead_31 : decode cX4_readAhead 31 = .ok (.getfield 9, 3) := by decide +kernel
theorem dX4_readAhead_34 : decode cX4_readAhead 34 = .ok (.iload 6, 2) := by decide +kernel
theorem dX4_readAhead_36 : decode cX4_readAhead 36 = .ok (.aload_n 1, 1) := by decide +kernel
theorem dX4_readAhead_37 : decode cX4_readAhead 37 = .ok (.iload 6, 2) := by decide +kernel
theorem dX4_readAhead_39 : decode cX4_readAhead 39 = .ok (.aload_n 1, 1) := by decide +kernel
theorem dX4_readAhead_40 : decode cX4_readAhead 40 = .ok (.getfield 30, 3) := by decide +kernel
theorem dX4_readAhead_43 : decode cX4_readAhead 43 = .ok (.invokevirtual 42, 3) := by decide +kernel
theorem dX4_readAhead_46 : decode cX4_readAhead 46 = .ok (.invokevirtual 83, 3) := by decide +kernel
theorem dX4_readAhead_49 : decode cX4_readAhead 49 = .ok (.ifCond .eq 17, 3) := by decide +kernel
theorem dX4_readAhead_52 : decode cX4_readAhead 52 = .ok (.aload_n 1, 1) := by decide +kernel
theorem dX4_readAhead_53 : decode cX4_readAhead 53 = .ok (.iload_n 3, 1) := by decide +kernel
theorem dX4_readAhead_54 : decode cX4_readAhead 54 = .ok (.iload 7, 2) := by decide +kernel
theorem dX4_readAhead_56 : decode cX4_readAhead 56 = .ok (.iload 4, 2) := by decide +kernel
theorem dX4_readAhead_58 : decode cX4_readAhead 58 = .ok (.iload 5, 2) := by decide +kernel
theorem dX4_readAhead_60 : decode cX4_readAhead 60 = .ok (.invokevirtual 79, 3) := by decide +kernel
theorem dX4_readAhead_63 : decode cX4_readAhead 63 = .ok (.goto 5, 3) := by decide +kernel
theorem dX4_readAhead_66 : decode cX4_readAhead 66 = .ok (.iload 7, 2) := by decide +kernel
theorem dX4_readAhead_68 : decode cX4_readAhead 68 = .ok (.iastore, 1) := by decide +kernel
theorem dX4_readAhead_69 : decode cX4_readAhead 69 = .ok (.iinc 6 1, 3) := by decide +kernel
theorem dX4_readAhead_72 : decode cX4_readAhead 72 = .ok (.goto (-69), 3) := by decide +kernel
theorem dX4_readAhead_75 : decode cX4_readAhead 75 = .ok (.return_, 1) := by decide +kernel
theorem dX4_lastNotice_0 : decode cX4_lastNotice 0 = .ok (.iconst 0, 1) := by decide +kernel
theorem dX4_lastNotice_1 : decode cX4_lastNotice 1 = .ok (.istore 5, 2) := by decide +kernel
theorem dX4_lastNotice_3 : decode cX4_lastNotice 3 = .ok (.iload 5, 2) := by decide +kernel
theorem dX4_lastNotice_5 : decode cX4_lastNotice 5 = .ok (.aload_n 1, 1) := by decide +kernel
theorem dX4_lastNotice_6 : decode cX4_lastNotice 6 = .ok (.getfield 63, 3) := by decide +kernel
theorem dX4_lastNotice_9 : decode cX4_lastNotice 9 = .ok (.if_icmp .ge 109, 3) := by decide +kernel
theorem dX4_lastNotice_12 : decode cX4_lastNotice 12 = .ok (.aload_n 1, 1) := by decide +kernel
theorem dX4_lastNotice_13 : decode cX4_lastNotice 13 = .ok (.getfield 30, 3) := by decide +kernel
theorem dX4_lastNotice_16 : decode cX4_lastNotice 16 = .ok (.iload 5, 2) := by decide +kernel
theorem dX4_lastNotice_18 : decode cX4_lastNotice 18 = .ok (.invokevirtual 87, 3) := by decide +kernel
theorem dX4_lastNotice_21 : decode cX4_lastNotice 21 = .ok (.istore 6, 2) := by decide +kernel
theorem dX4_lastNotice_23 : decode cX4_lastNotice 23 = .ok (.iconst 0, 1) := by decide +kernel
theorem dX4_lastNotice_24 : decode cX4_lastNotice 24 = .ok (.istore 7, 2) := by decide +kernel
theorem dX4_lastNotice_26 : decode cX4_lastNotice 26 = .ok (.iload 7, 2) := by decide +kernel
theorem dX4_lastNotice_28 : decode cX4_lastNotice 28 = .ok (.aload_n 1, 1) := by decide +kernel
theorem dX4_lastNotice_29 : decode cX4_lastNotice 29 = .ok (.getfield 66, 3) := by decide +kernel
theorem dX4_lastNotice_32 : decode cX4_lastNotice 32 = .ok (.getfield 70, 3) := by decide +kernel
theorem dX4_lastNotice_35 : decode cX4_lastNotice 35 = .ok (.if_icmp .ge 77, 3) := by decide +kernel
theorem dX4_lastNotice_38 : decode cX4_lastNotice 38 = .ok (.iconst 0, 1) := by decide +kernel
theorem dX4_lastNotice_39 : decode cX4_lastNotice 39 = .ok (.istore 8, 2) := by decide +kernel
theorem dX4_lastNotice_41 : decode cX4_lastNotice 41 = .ok (.iload 8, 2) := by decide +kernel
theorem dX4_lastNotice_43 : decode cX4_lastNotice 43 = .ok (.iconst 4, 1) := by decide +kernel
theorem dX4_lastNotice_44 : decode cX4_lastNotice 44 = .ok (.if_icmp .ge 62, 3) := by decide +kernel
theorem dX4_lastNotice_47 : decode cX4_lastNotice 47 = .ok (.aload_n 1, 1) := by decide +kernel
theorem dX4_lastNotice_48 : decode cX4_lastNotice 48 = .ok (.getfield 66, 3) := by decide +kernel
theorem dX4_lastNotice_51 : decode cX4_lastNotice 51 = .ok (.iload 6, 2) := by decide +kernel
theorem dX4_lastNotice_53 : decode cX4_lastNotice 53 = .ok (.iload_n 2, 1) := by decide +kernel
theorem dX4_lastNotice_54 : decode cX4_lastNotice 54 = .ok (.iload 7, 2) := by decide +kernel
theorem dX4_lastNotice_56 : decode cX4_lastNotice 56 = .ok (.iload 8, 2) := by decide +kernel
theorem dX4_lastNotice_58 : decode cX4_lastNotice 58 = .ok (.invokevirtual 90, 3) := by decide +kernel
theorem dX4_lastNotice_61 : decode cX4_lastNotice 61 = .ok (.aload_n 1, 1) := by decide +kernel
theorem dX4_lastNotice_62 : decode cX4_lastNotice 62 = .ok (.getfield 53, 3) := by decide +kernel
theorem dX4_lastNotice_65 : decode cX4_lastNotice 65 = .ok (.if_icmp .ne 35, 3) := by decide +kernel
theorem dX4_lastNotice_68 : decode cX4_lastNotice 68 = .ok (.aload_n 0, 1) := by decide +kernel
theorem dX4_lastNotice_69 : decode cX4_lastNotice 69 = .ok (.aload_n 1, 1) := by decide +kernel
theorem dX4_lastNotice_70 : decode cX4_lastNotice 70 = .ok (.iload_n 3, 1) := by decide +kernel
theorem dX4_lastNotice_71 : decode cX4_lastNotice 71 = .ok (.iload 4, 2) := by decide +kernel
theorem dX4_lastNotice_73 : decode cX4_lastNotice 73 = .ok (.iload 6, 2) := by decide +kernel
theorem dX4_lastNotice_75 : decode cX4_lastNotice 75 = .ok (.iload 7, 2) := by decide +kernel
theorem dX4_lastNotice_77 : decode cX4_lastNotice 77 = .ok (.iload 8, 2) := by decide +kernel
theorem dX4_lastNotice_79 : decode cX4_lastNotice 79 = .ok (.invokevirtual 91, 3) := by decide +kernel
theorem dX4_lastNotice_82 : decode cX4_lastNotice 82 = .ok (.ifCond .eq 18, 3) := by decide +kernel
theorem dX4_lastNotice_85 : decode cX4_lastNotice 85 = .ok (.bipush 100, 2) := by decide +kernel
theorem dX4_lastNotice_87 : decode cX4_lastNotice 87 = .ok (.iload 5, 2) := by decide +kernel
theorem dX4_lastNotice_89 : decode cX4_lastNotice 89 = .ok (.imul, 1) := by decide +kernel
theorem dX4_lastNotice_90 : decode cX4_lastNotice 90 = .ok (.bipush 10, 2) := by decide +kernel
theorem dX4_lastNotice_92 : decode cX4_lastNotice 92 = .ok (.iload 7, 2) := by decide +kernel
theorem dX4_lastNotice_94 : decode cX4_lastNotice 94 = .ok (.imul, 1) := by decide +kernel
theorem dX4_lastNotice_95 : decode cX4_lastNotice 95 = .ok (.iadd, 1) := by decide +kernel
theorem dX4_lastNotice_96 : decode cX4_lastNotice 96 = .ok (.iload 8, 2) := by decide +kernel
theorem dX4_lastNotice_98 : decode cX4_lastNotice 98 = .ok (.iadd, 1) := by decide +kernel
theorem dX4_lastNotice_99 : decode cX4_lastNotice 99 = .ok (.ireturn, 1) := by decide +kernel
theorem dX4_lastNotice_100 : decode cX4_lastNotice 100 = .ok (.iinc 8 1, 3) := by decide +kernel
theorem dX4_lastNotice_103 : decode cX4_lastNotice 103 = .ok (.goto (-62), 3) := by decide +kernel
theorem dX4_lastNotice_106 : decode cX4_lastNotice 106 = .ok (.iinc 7 1, 3) := by decide +kernel
theorem dX4_lastNotice_109 : decode cX4_lastNotice 109 = .ok (.goto (-83), 3) := by decide +kernel
theorem dX4_lastNotice_112 : decode cX4_lastNotice 112 = .ok (.iinc 5 1, 3) := by decide +kernel
theorem dX4_lastNotice_115 : decode cX4_lastNotice 115 = .ok (.goto (-112), 3) := by decide +kernel
theorem dX4_lastNotice_118 : decode cX4_lastNotice 118 = .ok (.bipush (-9), 2) := by decide +kernel
theorem dX4_lastNotice_120 : decode cX4_lastNotice 120 = .ok (.ireturn, 1) := by decide +kernel
theorem dX4_rightsBeliefs_0 : decode cX4_rightsBeliefs 0 = .ok (.iconst 0, 1) := by decide +kernel
theorem dX4_rightsBeliefs_1 : decode cX4_rightsBeliefs 1 = .ok (.istore 7, 2) := by decide +kernel
theorem dX4_rightsBeliefs_3 : decode cX4_rightsBeliefs 3 = .ok (.iload 7, 2) := by decide +kernel
theorem dX4_rightsBeliefs_5 : decode cX4_rightsBeliefs 5 = .ok (.iload_n 2, 1) := by decide +kernel
theorem dX4_rightsBeliefs_6 : decode cX4_rightsBeliefs 6 = .ok (.if_icmp .ge 66, 3) := by decide +kernel
theorem dX4_rightsBeliefs_9 : decode cX4_rightsBeliefs 9 = .ok (.iload 7, 2) := by decide +kernel
theorem dX4_rightsBeliefs_11 : decode cX4_rightsBeliefs 11 = .ok (.aload_n 0, 1) := by decide +kernel
theorem dX4_rightsBeliefs_12 : decode cX4_rightsBeliefs 12 = .ok (.getfield 9, 3) := by decide +kernel
theorem dX4_rightsBeliefs_15 : decode cX4_rightsBeliefs 15 = .ok (.arraylength, 1) := by decide +kernel
theorem dX4_rightsBeliefs_16 : decode cX4_rightsBeliefs 16 = .ok (.if_icmp .ge 56, 3) := by decide +kernel
theorem dX4_rightsBeliefs_19 : decode cX4_rightsBeliefs 19 = .ok (.aload_n 0, 1) := by decide +kernel
theorem dX4_rightsBeliefs_20 : decode cX4_rightsBeliefs 20 = .ok (.getfield 9, 3) := by decide +kernel
theorem dX4_rightsBeliefs_23 : decode cX4_rightsBeliefs 23 = .ok (.iload 7, 2) := by decide +kernel
theorem dX4_rightsBeliefs_25 : decode cX4_rightsBeliefs 25 = .ok (.iaload, 1) := by decide +kernel
theorem dX4_rightsBeliefs_26 : decode cX4_rightsBeliefs 26 = .ok (.istore 8, 2) := by decide +kernel
theorem dX4_rightsBeliefs_28 : decode cX4_rightsBeliefs 28 = .ok (.aload_n 1, 1) := by decide +kernel
theorem dX4_rightsBeliefs_29 : decode cX4_rightsBeliefs 29 = .ok (.iload 7, 2) := by decide +kernel
theorem dX4_rightsBeliefs_31 : decode cX4_rightsBeliefs 31 = .ok (.iload_n 3, 1) := by decide +kernel
theorem dX4_rightsBeliefs_32 : decode cX4_rightsBeliefs 32 = .ok (.invokevirtual 83, 3) := by decide +kernel
theorem dX4_rightsBeliefs_35 : decode cX4_rightsBeliefs 35 = .ok (.ifCond .eq 20, 3) := by decide +kernel
theorem dX4_rightsBeliefs_38 : decode cX4_rightsBeliefs 38 = .ok (.aload_n 1, 1) := by decide +kernel
theorem dX4_rightsBeliefs_39 : decode cX4_rightsBeliefs 39 = .ok (.getfield 66, 3) := by decide +kernel
theorem dX4_rightsBeliefs_42 : decode cX4_rightsBeliefs 42 = .ok (.iload 4, 2) := by decide +kernel
theorem dX4_rightsBeliefs_44 : decode cX4_rightsBeliefs 44 = .ok (.iload 8, 2) := by decide +kernel
theorem dX4_rightsBeliefs_46 : decode cX4_rightsBeliefs 46 = .ok (.iload 5, 2) := by decide +kernel
theorem dX4_rightsBeliefs_48 : decode cX4_rightsBeliefs 48 = .ok (.iload 6, 2) := by decide +kernel
theorem dX4_rightsBeliefs_50 : decode cX4_rightsBeliefs 50 = .ok (.invokevirtual 90, 3) := by decide +kernel
theorem dX4_rightsBeliefs_53 : decode cX4_rightsBeliefs 53 = .ok (.istore 8, 2) := by decide +kernel
theorem dX4_rightsBeliefs_55 : decode cX4_rightsBeliefs 55 = .ok (.iload 8, 2) := by decide +kernel
theorem dX4_rightsBeliefs_57 : decode cX4_rightsBeliefs 57 = .ok (.aload_n 1, 1) := by decide +kernel
theorem dX4_rightsBeliefs_58 : decode cX4_rightsBeliefs 58 = .ok (.getfield 53, 3) := by decide +kernel
theorem dX4_rightsBeliefs_61 : decode cX4_rightsBeliefs 61 = .ok (.if_icmp .eq 5, 3) := by decide +kernel
theorem dX4_rightsBeliefs_64 : decode cX4_rightsBeliefs 64 = .ok (.iconst 0, 1) := by decide +kernel
theorem dX4_rightsBeliefs_65 : decode cX4_rightsBeliefs 65 = .ok (.ireturn, 1) := by decide +kernel
theorem dX4_rightsBeliefs_66 : decode cX4_rightsBeliefs 66 = .ok (.iinc 7 1, 3) := by decide +kernel
theorem dX4_rightsBeliefs_69 : decode cX4_rightsBeliefs 69 = .ok (.goto (-66), 3) := by decide +kernel
theorem dX4_rightsBeliefs_72 : decode cX4_rightsBeliefs 72 = .ok (.iconst 1, 1) := by decide +kernel
theorem dX4_rightsBeliefs_73 : decode cX4_rightsBeliefs 73 = .ok (.ireturn, 1) := by decide +kernel
theorem dX5_init_0 : decode cX5_init 0 = .ok (.aload_n 0, 1) := by decide +kernel
theorem dX5_init_1 : decode cX5_init 1 = .ok (.invokespecial 3, 3) := by decide +kernel
theorem dX5_init_4 : decode cX5_init 4 = .ok (.aload_n 0, 1) := by decide +kernel
theorem dX5_init_5 : decode cX5_init 5 = .ok (.iconst 4, 1) := by decide +kernel
theorem dX5_init_6 : decode cX5_init 6 = .ok (.newarray .int, 2) := by decide +kernel
theorem dX5_init_8 : decode cX5_init 8 = .ok (.putfield 9, 3) := by decide +kernel
theorem dX5_init_11 : decode cX5_init 11 = .ok (.aload_n 0, 1) := by decide +kernel
theorem dX5_init_12 : decode cX5_init 12 = .ok (.iconst 0, 1) := by decide +kernel
theorem dX5_init_13 : decode cX5_init 13 = .ok (.putfield 15, 3) := by decide +kernel
theorem dX5_init_16 : decode cX5_init 16 = .ok (.return_, 1) := by decide +kernel
theorem dX5_read_0 : decode cX5_read 0 = .ok (.iload_n 2, 1) := by decide +kernel
theorem dX5_read_1 : decode cX5_read 1 = .ok (.iconst 1, 1) := by decide +kernel
theorem dX5_read_2 : decode cX5_read 2 = .ok (.if_icmp .lt 24, 3) := by decide +kernel
theorem dX5_read_5 : decode cX5_read 5 = .ok (.iload_n 2, 1) := by decide +kernel
theorem dX5_read_6 : decode cX5_read 6 = .ok (.iload_n 3, 1) := by decide +kernel
theorem dX5_read_7 : decode cX5_read 7 = .ok (.if_icmp .gt 19, 3) := by decide +kernel
theorem dX5_read_10 : decode cX5_read 10 = .ok (.iload_n 2, 1) := by decide +kernel
theorem dX5_read_11 : decode cX5_read 11 = .ok (.aload_n 0, 1) := by decide +kernel
theorem dX5_read_12 : decode cX5_read 12 = .ok (.getfield 9, 3) := by decide +kernel
theorem dX5_read_15 : decode cX5_read 15 = .ok (.arraylength, 1) := by decide +kernel
theorem dX5_read_16 : decode cX5_read 16 = .ok (.if_icmp .gt 10, 3) := by decide +kernel
theorem dX5_read_19 : decode cX5_read 19 = .ok (.lload 4, 2) := by decide +kernel
theorem dX5_read_21 : decode cX5_read 21 = .ok (.lconst 0, 1) := by decide +kernel
theorem dX5_read_22 : decode cX5_read 22 = .ok (.lcmp, 1) := by decide +kernel
theorem dX5_read_23 : decode cX5_read 23 = .ok (.ifCond .ge 5, 3) := by decide +kernel
theorem dX5_read_26 : decode cX5_read 26 = .ok (.iconst 0, 1) := by decide +kernel
theorem dX5_read_27 : decode cX5_read 27 = .ok (.ireturn, 1) := by decide +kernel
theorem dX5_read_28 : decode cX5_read 28 = .ok (.lload 4, 2) := by decide +kernel
theorem dX5_read_30 : decode cX5_read 30 = .ok (.lstore 6, 2) := by decide +kernel
theorem dX5_read_32 : decode cX5_read 32 = .ok (.iload_n 2, 1) := by decide +kernel
theorem dX5_read_33 : decode cX5_read 33 = .ok (.iconst 1, 1) := by decide +kernel
theorem dX5_read_34 : decode cX5_read 34 = .ok (.isub, 1) := by decide +kernel
theorem dX5_read_35 : decode cX5_read 35 = .ok (.istore 8, 2) := by decide +kernel
theorem dX5_read_37 : decode cX5_read 37 = .ok (.iload 8, 2) := by decide +kernel
theorem dX5_read_39 : decode cX5_read 39 = .ok (.ifCond .lt 69, 3) := by decide +kernel
theorem dX5_read_42 : decode cX5_read 42 = .ok (.lload 6, 2) := by decide +kernel
theorem dX5_read_44 : decode cX5_read 44 = .ok (.ldc2_w 19, 3) := by decide +kernel
theorem dX5_read_47 : decode cX5_read 47 = .ok (.lrem, 1) := by decide +kernel
theorem dX5_read_48 : decode cX5_read 48 = .ok (.l2i, 1) := by decide +kernel
theorem dX5_read_49 : decode cX5_read 49 = .ok (.istore 9, 2) := by decide +kernel
theorem dX5_read_51 : decode cX5_read 51 = .ok (.aload_n 1, 1) := by decide +kernel
theorem dX5_read_52 : decode cX5_read 52 = .ok (.iload 9, 2) := by decide +kernel
theorem dX5_read_54 : decode cX5_read 54 = .ok (.bipush 100, 2) := by decide +kernel
theorem dX5_read_56 : decode cX5_read 56 = .ok (.idiv, 1) := by decide +kernel
theorem dX5_read_57 : decode cX5_read 57 = .ok (.invokevirtual 21, 3) := by decide +kernel
theorem dX5_read_60 : decode cX5_read 60 = .ok (.ifCond .eq 23, 3) := by decide +kernel
theorem dX5_read_63 : decode cX5_read 63 = .ok (.aload_n 1, 1) := by decide +kernel
theorem dX5_read_64 : decode cX5_read 64 = .ok (.iload 9, 2) := by decide +kernel
theorem dX5_read_66 : decode cX5_read 66 = .ok (.bipush 10, 2) := by decide +kernel
theorem dX5_read_68 : decode cX5_read 68 = .ok (.idiv, 1) := by decide +kernel
theorem dX5_read_69 : decode cX5_read 69 = .ok (.bipush 10, 2) := by decide +kernel
theorem dX5_read_71 : decode cX5_read 71 = .ok (.irem, 1) := by decide +kernel
theorem dX5_read_72 : decode cX5_read 72 = .ok (.iload 9, 2) := by decide +kernel
theorem dX5_read_74 : decode cX5_read 74 = .ok (.bipush 10, 2) := by decide +kernel
theorem dX5_read_76 : decode cX5_read 76 = .ok (.irem, 1) := by decide +kernel
theorem dX5_read_77 : decode cX5_read 77 = .ok (.invokevirtual 27, 3) := by decide +kernel
theorem dX5_read_80 : decode cX5_read 80 = .ok (.ifCond .ne 5, 3) := by decide +kernel
theorem dX5_read_83 : decode cX5_read 83 = .ok (.iconst 0, 1) := by decide +kernel
theorem dX5_read_84 : decode cX5_read 84 = .ok (.ireturn, 1) := by decide +kernel
theorem dX5_read_85 : decode cX5_read 85 = .ok (.aload_n 0, 1) := by decide +kernel
theorem dX5_read_86 : decode cX5_read 86 = .ok (.getfield 9, 3) := by decide +kernel
theorem dX5_read_89 : decode cX5_read 89 = .ok (.iload 8, 2) := by decide +kernel
theorem dX5_read_91 : decode cX5_read 91 = .ok (.iload 9, 2) := by decide +kernel
theorem dX5_read_93 : decode cX5_read 93 = .ok (.iastore, 1) := by decide +kernel
theorem dX5_read_94 : decode cX5_read 94 = .ok (.lload 6, 2) := by decide +kernel
theorem dX5_read_96 : decode cX5_read 96 = .ok (.ldc2_w 19, 3) := by decide +kernel
theorem dX5_read_99 : decode cX5_read 99 = .ok (.ldiv, 1) := by decide +kernel
theorem dX5_read_100 : decode cX5_read 100 = .ok (.lstore 6, 2) := by decide +kernel
theorem dX5_read_102 : decode cX5_read 102 = .ok (.iinc 8 (-1), 3) := by decide +kernel
theorem dX5_read_105 : decode cX5_read 105 = .ok (.goto (-68), 3) := by decide +kernel
theorem dX5_read_108 : decode cX5_read 108 = .ok (.aload_n 0, 1) := by decide +kernel
theorem dX5_read_109 : decode cX5_read 109 = .ok (.iload_n 2, 1) := by decide +kernel
theorem dX5_read_110 : decode cX5_read 110 = .ok (.putfield 15, 3) := by decide +kernel
theorem dX5_read_113 : decode cX5_read 113 = .ok (.lload 6, 2) := by decide +kernel
theorem dX5_read_115 : decode cX5_read 115 = .ok (.lconst 0, 1) := by decide +kernel
theorem dX5_read_116 : decode cX5_read 116 = .ok (.lcmp, 1) := by decide +kernel
theorem dX5_read_117 : decode cX5_read 117 = .ok (.ifCond .ne 7, 3) := by decide +kernel
theorem dX5_read_120 : decode cX5_read 120 = .ok (.iconst 1, 1) := by decide +kernel
theorem dX5_read_121 : decode cX5_read 121 = .ok (.goto 4, 3) := by decide +kernel
theorem dX5_read_124 : decode cX5_read 124 = .ok (.iconst 0, 1) := by decide +kernel
theorem dX5_read_125 : decode cX5_read 125 = .ok (.ireturn, 1) := by decide +kernel
theorem dX5_doneOn_0 : decode cX5_doneOn 0 = .ok (.iload_n 2, 1) := by decide +kernel
theorem dX5_doneOn_1 : decode cX5_doneOn 1 = .ok (.istore_n 3, 1) := by decide +kernel
theorem dX5_doneOn_2 : decode cX5_doneOn 2 = .ok (.iconst 0, 1) := by decide +kernel
theorem dX5_doneOn_3 : decode cX5_doneOn 3 = .ok (.istore 4, 2) := by decide +kernel
theorem dX5_doneOn_5 : decode cX5_doneOn 5 = .ok (.iload 4, 2) := by decide +kernel
theorem dX5_doneOn_7 : decode cX5_doneOn 7 = .ok (.aload_n 0, 1) := by decide +kernel
theorem dX5_doneOn_8 : decode cX5_doneOn 8 = .ok (.getfield 15, 3) := by decide +kernel
theorem dX5_doneOn_11 : decode cX5_doneOn 11 = .ok (.if_icmp .ge 52, 3) := by decide +kernel
theorem dX5_doneOn_14 : decode cX5_doneOn 14 = .ok (.iload 4, 2) := by decide +kernel
theorem dX5_doneOn_16 : decode cX5_doneOn 16 = .ok (.aload_n 0, 1) := by decide +kernel
theorem dX5_doneOn_17 : decode cX5_doneOn 17 = .ok (.getfield 9, 3) := by decide +kernel
theorem dX5_doneOn_20 : decode cX5_doneOn 20 = .ok (.arraylength, 1) := by decide +kernel
theorem dX5_doneOn_21 : decode cX5_doneOn 21 = .ok (.if_icmp .ge 42, 3) := by decide +kernel
theorem dX5_doneOn_24 : decode cX5_doneOn 24 = .ok (.aload_n 0, 1) := by decide +kernel
theorem dX5_doneOn_25 : decode cX5_doneOn 25 = .ok (.getfield 9, 3) := by decide +kernel
theorem dX5_doneOn_28 : decode cX5_doneOn 28 = .ok (.iload 4, 2) := by decide +kernel
theorem dX5_doneOn_30 : decode cX5_doneOn 30 = .ok (.iaload, 1) := by decide +kernel
theorem dX5_doneOn_31 : decode cX5_doneOn 31 = .ok (.istore 5, 2) := by decide +kernel
theorem dX5_doneOn_33 : decode cX5_doneOn 33 = .ok (.aload_n 1, 1) := by decide +kernel
theorem dX5_doneOn_34 : decode cX5_doneOn 34 = .ok (.iload 5, 2) := by decide +kernel
theorem dX5_doneOn_36 : decode cX5_doneOn 36 = .ok (.bipush 100, 2) := by decide +kernel
theorem dX5_doneOn_38 : decode cX5_doneOn 38 = .ok (.idiv, 1) := by decide +kernel
theorem dX5_doneOn_39 : decode cX5_doneOn 39 = .ok (.iload_n 3, 1) := by decide +kernel
theorem dX5_doneOn_40 : decode cX5_doneOn 40 = .ok (.iload 5, 2) := by decide +kernel
theorem dX5_doneOn_42 : decode cX5_doneOn 42 = .ok (.bipush 10, 2) := by decide +kernel
theorem dX5_doneOn_44 : decode cX5_doneOn 44 = .ok (.idiv, 1) := by decide +kernel
theorem dX5_doneOn_45 : decode cX5_doneOn 45 = .ok (.bipush 10, 2) := by decide +kernel
theorem dX5_doneOn_47 : decode cX5_doneOn 47 = .ok (.irem, 1) := by decide +kernel
theorem dX5_doneOn_48 : decode cX5_doneOn 48 = .ok (.iload 5, 2) := by decide +kernel
theorem dX5_doneOn_50 : decode cX5_doneOn 50 = .ok (.bipush 10, 2) := by decide +kernel
theorem dX5_doneOn_52 : decode cX5_doneOn 52 = .ok (.irem, 1) := by decide +kernel
theorem dX5_doneOn_53 : decode cX5_doneOn 53 = .ok (.invokevirtual 31, 3) := by decide +kernel
theorem dX5_doneOn_56 : decode cX5_doneOn 56 = .ok (.istore_n 3, 1) := by decide +kernel
theorem dX5_doneOn_57 : decode cX5_doneOn 57 = .ok (.iinc 4 1, 3) := by decide +kernel
theorem dX5_doneOn_60 : decode cX5_doneOn 60 = .ok (.goto (-55), 3) := by decide +kernel
theorem dX5_doneOn_63 : decode cX5_doneOn 63 = .ok (.iload_n 3, 1) := by decide +kernel
theorem dX5_doneOn_64 : decode cX5_doneOn 64 = .ok (.ireturn, 1) := by decide +kernel
theorem dX5_nameOnRing_0 : decode cX5_nameOnRing 0 = .ok (.aload_n 0, 1) := by decide +kernel
theorem dX5_nameOnRing_1 : decode cX5_nameOnRing 1 = .ok (.aload_n 1, 1) := by decide +kernel
theorem dX5_nameOnRing_2 : decode cX5_nameOnRing 2 = .ok (.aload_n 1, 1) := by decide +kernel
theorem dX5_nameOnRing_3 : decode cX5_nameOnRing 3 = .ok (.getfield 35, 3) := by decide +kernel
theorem dX5_nameOnRing_6 : decode cX5_nameOnRing 6 = .ok (.invokevirtual 39, 3) := by decide +kernel
theorem dX5_nameOnRing_9 : decode cX5_nameOnRing 9 = .ok (.invokevirtual 45, 3) := by decide +kernel
theorem dX5_nameOnRing_12 : decode cX5_nameOnRing 12 = .ok (.istore_n 2, 1) := by decide +kernel
theorem dX5_nameOnRing_13 : decode cX5_nameOnRing 13 = .ok (.aload_n 0, 1) := by decide +kernel
theorem dX5_nameOnRing_14 : decode cX5_nameOnRing 14 = .ok (.aload_n 1, 1) := by decide +kernel
theorem dX5_nameOnRing_15 : decode cX5_nameOnRing 15 = .ok (.iload_n 2, 1) := by decide +kernel
theorem dX5_nameOnRing_16 : decode cX5_nameOnRing 16 = .ok (.invokevirtual 45, 3) := by decide +kernel
theorem dX5_nameOnRing_19 : decode cX5_nameOnRing 19 = .ok (.istore_n 3, 1) := by decide +kernel
theorem dX5_nameOnRing_20 : decode cX5_nameOnRing 20 = .ok (.iconst 0, 1) := by decide +kernel
theorem dX5_nameOnRing_21 : decode cX5_nameOnRing 21 = .ok (.istore 4, 2) := by decide +kernel
theorem dX5_nameOnRing_23 : decode cX5_nameOnRing 23 = .ok (.iload 4, 2) := by decide +kernel
theorem dX5_nameOnRing_25 : decode cX5_nameOnRing 25 = .ok (.sipush 1024, 3) := by decide +kernel
theorem dX5_nameOnRing_28 : decode cX5_nameOnRing 28 = .ok (.if_icmp .ge 33, 3) := by decide +kernel
theorem dX5_nameOnRing_31 : decode cX5_nameOnRing 31 = .ok (.iload_n 2, 1) := by decide +kernel
theorem dX5_nameOnRing_32 : decode cX5_nameOnRing 32 = .ok (.iload_n 3, 1) := by decide +kernel
theorem dX5_nameOnRing_33 : decode cX5_nameOnRing 33 = .ok (.if_icmp .eq 28, 3) := by decide +kernel
theorem dX5_nameOnRing_36 : decode cX5_nameOnRing 36 = .ok (.aload_n 0, 1) := by decide +kernel
theorem dX5_nameOnRing_37 : decode cX5_nameOnRing 37 = .ok (.aload_n 1, 1) := by decide +kernel
theorem dX5_nameOnRing_38 : decode cX5_nameOnRing 38 = .ok (.iload_n 2, 1) := by decide +kernel
theorem dX5_nameOnRing_39 : decode cX5_nameOnRing 39 = .ok (.invokevirtual 45, 3) := by decide +kernel
theorem dX5_nameOnRing_42 : decode cX5_nameOnRing 42 = .ok (.istore_n 2, 1) := by decide +kernel
theorem dX5_nameOnRing_43 : decode cX5_nameOnRing 43 = .ok (.aload_n 0, 1) := by decide +kernel
theorem dX5_nameOnRing_44 : decode cX5_nameOnRing 44 = .ok (.aload_n 1, 1) := by decide +kernel
theorem dX5_nameOnRing_45 : decode cX5_nameOnRing 45 = .ok (.aload_n 0, 1) := by decide +kernel
theorem dX5_nameOnRing_46 : decode cX5_nameOnRing 46 = .ok (.aload_n 1, 1) := by decide +kernel
theorem dX5_nameOnRing_47 : decode cX5_nameOnRing 47 = .ok (.iload_n 3, 1) := by decide +kernel
theorem dX5_nameOnRing_48 : decode cX5_nameOnRing 48 = .ok (.invokevirtual 45, 3) := by decide +kernel
theorem dX5_nameOnRing_51 : decode cX5_nameOnRing 51 = .ok (.invokevirtual 45, 3) := by decide +kernel
theorem dX5_nameOnRing_54 : decode cX5_nameOnRing 54 = .ok (.istore_n 3, 1) := by decide +kernel
theorem dX5_nameOnRing_55 : decode cX5_nameOnRing 55 = .ok (.iinc 4 1, 3) := by decide +kernel
theorem dX5_nameOnRing_58 : decode cX5_nameOnRing 58 = .ok (.goto (-35), 3) := by decide +kernel
theorem dX5_nameOnRing_61 : decode cX5_nameOnRing 61 = .ok (.iload_n 2, 1) := by decide +kernel
theorem dX5_nameOnRing_62 : decode cX5_nameOnRing 62 = .ok (.ireturn, 1) := by decide +kernel
theorem dX5_roundsToRing_0 : decode cX5_roundsToRing 0 = .ok (.aload_n 1, 1) := by decide +kernel
theorem dX5_roundsToRing_1 : decode cX5_roundsToRing 1 = .ok (.getfield 35, 3) := by decide +kernel
theorem dX5_roundsToRing_4 : decode cX5_roundsToRing 4 = .ok (.invokevirtual 39, 3) := by decide +kernel
theorem dX5_roundsToRing_7 : decode cX5_roundsToRing 7 = .ok (.istore_n 3, 1) := by decide +kernel
theorem dX5_roundsToRing_8 : decode cX5_roundsToRing 8 = .ok (.iload_n 2, 1) := by decide +kernel
theorem dX5_roundsToRing_9 : decode cX5_roundsToRing 9 = .ok (.istore 4, 2) := by decide +kernel
theorem dX5_roundsToRing_11 : decode cX5_roundsToRing 11 = .ok (.iconst 0, 1) := by decide +kernel
theorem dX5_roundsToRing_12 : decode cX5_roundsToRing 12 = .ok (.istore 5, 2) := by decide +kernel
theorem dX5_roundsToRing_14 : decode cX5_roundsToRing 14 = .ok (.iload 5, 2) := by decide +kernel
theorem dX5_roundsToRing_16 : decode cX5_roundsToRing 16 = .ok (.sipush 1024, 3) := by decide +kernel
theorem dX5_roundsToRing_19 : decode cX5_roundsToRing 19 = .ok (.if_icmp .ge 31, 3) := by decide +kernel
theorem dX5_roundsToRing_22 : decode cX5_roundsToRing 22 = .ok (.iload_n 3, 1) := by decide +kernel
theorem dX5_roundsToRing_23 : decode cX5_roundsToRing 23 = .ok (.iload 4, 2) := by decide +kernel
theorem dX5_roundsToRing_25 : decode cX5_roundsToRing 25 = .ok (.if_icmp .eq 25, 3) := by decide +kernel
theorem dX5_roundsToRing_28 : decode cX5_roundsToRing 28 = .ok (.aload_n 0, 1) := by decide +kernel
theorem dX5_roundsToRing_29 : decode cX5_roundsToRing 29 = .ok (.aload_n 1, 1) := by decide +kernel
theorem dX5_roundsToRing_30 : decode cX5_roundsToRing 30 = .ok (.iload_n 3, 1) := by decide +kernel
theorem dX5_roundsToRing_31 : decode cX5_roundsToRing 31 = .ok (.invokevirtual 45, 3) := by decide +kernel
theorem dX5_roundsToRing_34 : decode cX5_roundsToRing 34 = .ok (.istore_n 3, 1) := by decide +kernel
theorem dX5_roundsToRing_35 : decode cX5_roundsToRing 35 = .ok (.aload_n 0, 1) := by decide +kernel
theorem dX5_roundsToRing_36 : decode cX5_roundsToRing 36 = .ok (.aload_n 1, 1) := by decide +kernel
theorem dX5_roundsToRing_37 : decode cX5_roundsToRing 37 = .ok (.iload 4, 2) := by decide +kernel
theorem dX5_roundsToRing_39 : decode cX5_roundsToRing 39 = .ok (.invokevirtual 45, 3) := by decide +kernel
theorem dX5_roundsToRing_42 : decode cX5_roundsToRing 42 = .ok (.istore 4, 2) := by decide +kernel
theorem dX5_roundsToRing_44 : decode cX5_roundsToRing 44 = .ok (.iinc 5 1, 3) := by decide +kernel
theorem dX5_roundsToRing_47 : decode cX5_roundsToRing 47 = .ok (.goto (-33), 3) := by decide +kernel
theorem dX5_roundsToRing_50 : decode cX5_roundsToRing 50 = .ok (.iload 5, 2) := by decide +kernel
theorem dX5_roundsToRing_52 : decode cX5_roundsToRing 52 = .ok (.ireturn, 1) := by decide +kernel
theorem dX5_roundsOfRing_0 : decode cX5_roundsOfRing 0 = .ok (.aload_n 0, 1) := by decide +kernel
theorem dX5_roundsOfRing_1 : decode cX5_roundsOfRing 1 = .ok (.aload_n 1, 1) := by decide +kernel
theorem dX5_roundsOfRing_2 : decode cX5_roundsOfRing 2 = .ok (.iload_n 2, 1) := by decide +kernel
theorem dX5_roundsOfRing_3 : decode cX5_roundsOfRing 3 = .ok (.invokevirtual 45, 3) := by decide +kernel
theorem dX5_roundsOfRing_6 : decode cX5_roundsOfRing 6 = .ok (.istore_n 3, 1) := by decide +kernel
theorem dX5_roundsOfRing_7 : decode cX5_roundsOfRing 7 = .ok (.iconst 1, 1) := by decide +kernel
theorem dX5_roundsOfRing_8 : decode cX5_roundsOfRing 8 = .ok (.istore 4, 2) := by decide +kernel
theorem dX5_roundsOfRing_10 : decode cX5_roundsOfRing 10 = .ok (.iload 4, 2) := by decide +kernel
theorem dX5_roundsOfRing_12 : decode cX5_roundsOfRing 12 = .ok (.sipush 1024, 3) := by decide +kernel
theorem dX5_roundsOfRing_15 : decode cX5_roundsOfRing 15 = .ok (.if_icmp .ge 21, 3) := by decide +kernel
theorem dX5_roundsOfRing_18 : decode cX5_roundsOfRing 18 = .ok (.iload_n 3, 1) := by decide +kernel
theorem dX5_roundsOfRing_19 : decode cX5_roundsOfRing 19 = .ok (.iload_n 2, 1) := by decide +kernel
theorem dX5_roundsOfRing_20 : decode cX5_roundsOfRing 20 = .ok (.if_icmp .eq 16, 3) := by decide +kernel
theorem dX5_roundsOfRing_23 : decode cX5_roundsOfRing 23 = .ok (.aload_n 0, 1) := by decide +kernel
theorem dX5_roundsOfRing_24 : decode cX5_roundsOfRing 24 = .ok (.aload_n 1, 1) := by decide +kernel
theorem dX5_roundsOfRing_25 : decode cX5_roundsOfRing 25 = .ok (.iload_n 3, 1) := by decide +kernel
theorem dX5_roundsOfRing_26 : decode cX5_roundsOfRing 26 = .ok (.invokevirtual 45, 3) := by decide +kernel
theorem dX5_roundsOfRing_29 : decode cX5_roundsOfRing 29 = .ok (.istore_n 3, 1) := by decide +kernel
theorem dX5_roundsOfRing_30 : decode cX5_roundsOfRing 30 = .ok (.iinc 4 1, 3) := by decide +kernel
theorem dX5_roundsOfRing_33 : decode cX5_roundsOfRing 33 = .ok (.goto (-23), 3) := by decide +kernel
theorem dX5_roundsOfRing_36 : decode cX5_roundsOfRing 36 = .ok (.iload 4, 2) := by decide +kernel
theorem dX5_roundsOfRing_38 : decode cX5_roundsOfRing 38 = .ok (.ireturn, 1) := by decide +kernel
theorem dX6_init_0 : decode cX6_init 0 = .ok (.aload_n 0, 1) := by decide +kernel
theorem dX6_init_1 : decode cX6_init 1 = .ok (.invokespecial 3, 3) := by decide +kernel
theorem dX6_init_4 : decode cX6_init 4 = .ok (.aload_n 0, 1) := by decide +kernel
theorem dX6_init_5 : decode cX6_init 5 = .ok (.new 9, 3) := by decide +kernel
theorem dX6_init_8 : decode cX6_init 8 = .ok (.dup, 1) := by decide +kernel
theorem dX6_init_9 : decode cX6_init 9 = .ok (.invokespecial 11, 3) := by decide +kernel
theorem dX6_init_12 : decode cX6_init 12 = .ok (.putfield 12, 3) := by decide +kernel
theorem dX6_init_15 : decode cX6_init 15 = .ok (.aload_n 0, 1) := by decide +kernel
theorem dX6_init_16 : decode cX6_init 16 = .ok (.new 18, 3) := by decide +kernel
theorem dX6_init_19 : decode cX6_init 19 = .ok (.dup, 1) := by decide +kernel
theorem dX6_init_20 : decode cX6_init 20 = .ok (.invokespecial 20, 3) := by decide +kernel
theorem dX6_init_23 : decode cX6_init 23 = .ok (.putfield 21, 3) := by decide +kernel
theorem dX6_init_26 : decode cX6_init 26 = .ok (.aload_n 0, 1) := by decide +kernel
theorem dX6_init_27 : decode cX6_init 27 = .ok (.iconst 4, 1) := by decide +kernel
theorem dX6_init_28 : decode cX6_init 28 = .ok (.newarray .int, 2) := by decide +kernel
theorem dX6_init_30 : decode cX6_init 30 = .ok (.putfield 25, 3) := by decide +kernel
theorem dX6_init_33 : decode cX6_init 33 = .ok (.aload_n 0, 1) := by decide +kernel
theorem dX6_init_34 : decode cX6_init 34 = .ok (.iconst 4, 1) := by decide +kernel
theorem dX6_init_35 : decode cX6_init 35 = .ok (.newarray .int, 2) := by decide +kernel
theorem dX6_init_37 : decode cX6_init 37 = .ok (.putfield 29, 3) := by decide +kernel
theorem dX6_init_40 : decode cX6_init 40 = .ok (.aload_n 0, 1) := by decide +kernel
theorem dX6_init_41 : decode cX6_init 41 = .ok (.iconst 0, 1) := by decide +kernel
theorem dX6_init_42 : decode cX6_init 42 = .ok (.putfield 32, 3) := by decide +kernel
theorem dX6_init_45 : decode cX6_init 45 = .ok (.aload_n 0, 1) := by decide +kernel
theorem dX6_init_46 : decode cX6_init 46 = .ok (.iconst 0, 1) := by decide +kernel
theorem dX6_init_47 : decode cX6_init 47 = .ok (.putfield 36, 3) := by decide +kernel
theorem dX6_init_50 : decode cX6_init 50 = .ok (.aload_n 0, 1) := by decide +kernel
theorem dX6_init_51 : decode cX6_init 51 = .ok (.iconst 0, 1) := by decide +kernel
theorem dX6_init_52 : decode cX6_init 52 = .ok (.putfield 39, 3) := by decide +kernel
theorem dX6_init_55 : decode cX6_init 55 = .ok (.return_, 1) := by decide +kernel
theorem dX6_makeAnew_0 : decode cX6_makeAnew 0 = .ok (.aload_n 0, 1) := by decide +kernel
theorem dX6_makeAnew_1 : decode cX6_makeAnew 1 = .ok (.getfield 12, 3) := by decide +kernel
theorem dX6_makeAnew_4 : decode cX6_makeAnew 4 = .ok (.aload_n 1, 1) := by decide +kernel
theorem dX6_makeAnew_5 : decode cX6_makeAnew 5 = .ok (.getfield 42, 3) := by decide +kernel
theorem dX6_makeAnew_8 : decode cX6_makeAnew 8 = .ok (.putfield 47, 3) := by decide +kernel
theorem dX6_makeAnew_11 : decode cX6_makeAnew 11 = .ok (.aload_n 0, 1) := by decide +kernel
theorem dX6_makeAnew_12 : decode cX6_makeAnew 12 = .ok (.aload_n 1, 1) := by decide +kernel
theorem dX6_makeAnew_13 : decode cX6_makeAnew 13 = .ok (.getfield 48, 3) := by decide +kernel
theorem dX6_makeAnew_16 : decode cX6_makeAnew 16 = .ok (.putfield 39, 3) := by decide +kernel
theorem dX6_makeAnew_19 : decode cX6_makeAnew 19 = .ok (.aload_n 0, 1) := by decide +kernel
theorem dX6_makeAnew_20 : decode cX6_makeAnew 20 = .ok (.aload_n 1, 1) := by decide +kernel
theorem dX6_makeAnew_21 : decode cX6_makeAnew 21 = .ok (.getfield 49, 3) := by decide +kernel
theorem dX6_makeAnew_24 : decode cX6_makeAnew 24 = .ok (.putfield 32, 3) := by decide +kernel
theorem dX6_makeAnew_27 : decode cX6_makeAnew 27 = .ok (.aload_n 0, 1) := by decide +kernel
theorem dX6_makeAnew_28 : decode cX6_makeAnew 28 = .ok (.aload_n 1, 1) := by decide +kernel
theorem dX6_makeAnew_29 : decode cX6_makeAnew 29 = .ok (.getfield 50, 3) := by decide +kernel
theorem dX6_makeAnew_32 : decode cX6_makeAnew 32 = .ok (.putfield 36, 3) := by decide +kernel
theorem dX6_makeAnew_35 : decode cX6_makeAnew 35 = .ok (.aload_n 1, 1) := by decide +kernel
theorem dX6_makeAnew_36 : decode cX6_makeAnew 36 = .ok (.getfield 51, 3) := by decide +kernel
theorem dX6_makeAnew_39 : decode cX6_makeAnew 39 = .ok (.iconst 0, 1) := by decide +kernel
theorem dX6_makeAnew_40 : decode cX6_makeAnew 40 = .ok (.aload_n 0, 1) := by decide +kernel
theorem dX6_makeAnew_41 : decode cX6_makeAnew 41 = .ok (.getfield 25, 3) := by decide +kernel
theorem dX6_makeAnew_44 : decode cX6_makeAnew 44 = .ok (.iconst 0, 1) := by decide +kernel
theorem dX6_makeAnew_45 : decode cX6_makeAnew 45 = .ok (.iconst 4, 1) := by decide +kernel
theorem dX6_makeAnew_46 : decode cX6_makeAnew 46 = .ok (.invokestatic 52, 3) := by decide +kernel
theorem dX6_makeAnew_49 : decode cX6_makeAnew 49 = .ok (.aload_n 1, 1) := by decide +kernel
theorem dX6_makeAnew_50 : decode cX6_makeAnew 50 = .ok (.getfield 58, 3) := by decide +kernel
theorem dX6_makeAnew_53 : decode cX6_makeAnew 53 = .ok (.iconst 0, 1) := by decide +kernel
theorem dX6_makeAnew_54 : decode cX6_makeAnew 54 = .ok (.aload_n 0, 1) := by decide +kernel
theorem dX6_makeAnew_55 : decode cX6_makeAnew 55 = .ok (.getfield 29, 3) := by decide +kernel
theorem dX6_makeAnew_58 : decode cX6_makeAnew 58 = .ok (.iconst 0, 1) := by decide +kernel
theorem dX6_makeAnew_59 : decode cX6_makeAnew 59 = .ok (.iconst 4, 1) := by decide +kernel
theorem dX6_makeAnew_60 : decode cX6_makeAnew 60 = .ok (.invokestatic 52, 3) := by decide +kernel
theorem dX6_makeAnew_63 : decode cX6_makeAnew 63 = .ok (.aload_n 0, 1) := by decide +kernel
theorem dX6_makeAnew_64 : decode cX6_makeAnew 64 = .ok (.getfield 21, 3) := by decide +kernel
theorem dX6_makeAnew_67 : decode cX6_makeAnew 67 = .ok (.aload_n 1, 1) := by decide +kernel
theorem dX6_makeAnew_68 : decode cX6_makeAnew 68 = .ok (.getfield 59, 3) := by decide +kernel
theorem dX6_makeAnew_71 : decode cX6_makeAnew 71 = .ok (.invokevirtual 62, 3) := by decide +kernel
theorem dX6_makeAnew_74 : decode cX6_makeAnew 74 = .ok (.aload_n 0, 1) := by decide +kernel
theorem dX6_makeAnew_75 : decode cX6_makeAnew 75 = .ok (.getfield 21, 3) := by decide +kernel
theorem dX6_makeAnew_78 : decode cX6_makeAnew 78 = .ok (.invokevirtual 66, 3) := by decide +kernel
theorem dX6_makeAnew_81 : decode cX6_makeAnew 81 = .ok (.iconst 0, 1) := by decide +kernel
theorem dX6_makeAnew_82 : decode cX6_makeAnew 82 = .ok (.istore_n 2, 1) := by decide +kernel
theorem dX6_makeAnew_83 : decode cX6_makeAnew 83 = .ok (.iload_n 2, 1) := by decide +kernel
theorem dX6_makeAnew_84 : decode cX6_makeAnew 84 = .ok (.aload_n 0, 1) := by decide +kernel
theorem dX6_makeAnew_85 : decode cX6_makeAnew 85 = .ok (.getfield 32, 3) := by decide +kernel
theorem dX6_makeAnew_88 : decode cX6_makeAnew 88 = .ok (.if_icmp .ge 32, 3) := by decide +kernel
theorem dX6_makeAnew_91 : decode cX6_makeAnew 91 = .ok (.iload_n 2, 1) := by decide +kernel
theorem dX6_makeAnew_92 : decode cX6_makeAnew 92 = .ok (.aload_n 1, 1) := by decide +kernel
theorem dX6_makeAnew_93 : decode cX6_makeAnew 93 = .ok (.getfield 69, 3) := by decide +kernel
theorem dX6_makeAnew_96 : decode cX6_makeAnew 96 = .ok (.arraylength, 1) := by decide +kernel
theorem dX6_makeAnew_97 : decode cX6_makeAnew 97 = .ok (.if_icmp .ge 23, 3) := by decide +kernel
theorem dX6_makeAnew_100 : decode cX6_makeAnew 100 = .ok (.aload_n 0, 1) := by decide +kernel
theorem dX6_makeAnew_101 : decode cX6_makeAnew 101 = .ok (.getfield 21, 3) := by decide +kernel
theorem dX6_makeAnew_104 : decode cX6_makeAnew 104 = .ok (.iload_n 2, 1) := by decide +kernel
theorem dX6_makeAnew_105 : decode cX6_makeAnew 105 = .ok (.aload_n 1, 1) := by decide +kernel
theorem dX6_makeAnew_106 : decode cX6_makeAnew 106 = .ok (.getfield 69, 3) := by decide +kernel
theorem dX6_makeAnew_109 : decode cX6_makeAnew 109 = .ok (.iload_n 2, 1) := by decide +kernel
theorem dX6_makeAnew_110 : decode cX6_makeAnew 110 = .ok (.iaload, 1) := by decide +kernel
theorem dX6_makeAnew_111 : decode cX6_makeAnew 111 = .ok (.invokevirtual 72, 3) := by decide +kernel
theorem dX6_makeAnew_114 : decode cX6_makeAnew 114 = .ok (.iinc 2 1, 3) := by decide +kernel
theorem dX6_makeAnew_117 : decode cX6_makeAnew 117 = .ok (.goto (-34), 3) := by decide +kernel
theorem dX6_makeAnew_120 : decode cX6_makeAnew 120 = .ok (.iconst 0, 1) := by decide +kernel
theorem dX6_makeAnew_121 : decode cX6_makeAnew 121 = .ok (.istore_n 2, 1) := by decide +kernel
theorem dX6_makeAnew_122 : decode cX6_makeAnew 122 = .ok (.iload_n 2, 1) := by decide +kernel
theorem dX6_makeAnew_123 : decode cX6_makeAnew 123 = .ok (.aload_n 0, 1) := by decide +kernel
theorem dX6_makeAnew_124 : decode cX6_makeAnew 124 = .ok (.getfield 36, 3) := by decide +kernel
theorem dX6_makeAnew_127 : decode cX6_makeAnew 127 = .ok (.if_icmp .ge 21, 3) := by decide +kernel
theorem dX6_makeAnew_130 : decode cX6_makeAnew 130 = .ok (.aload_n 0, 1) := by decide +kernel
theorem dX6_makeAnew_131 : decode cX6_makeAnew 131 = .ok (.getfield 21, 3) := by decide +kernel
theorem dX6_makeAnew_134 : decode cX6_makeAnew 134 = .ok (.iload_n 2, 1) := by decide +kernel
theorem dX6_makeAnew_135 : decode cX6_makeAnew 135 = .ok (.aload_n 1, 1) := by decide +kernel
theorem dX6_makeAnew_136 : decode cX6_makeAnew 136 = .ok (.getfield 59, 3) := by decide +kernel
theorem dX6_makeAnew_139 : decode cX6_makeAnew 139 = .ok (.invokevirtual 76, 3) := by decide +kernel
theorem dX6_makeAnew_142 : decode cX6_makeAnew 142 = .ok (.iinc 2 1, 3) := by decide +kernel
theorem dX6_makeAnew_145 : decode cX6_makeAnew 145 = .ok (.goto (-23), 3) := by decide +kernel
theorem dX6_makeAnew_148 : decode cX6_makeAnew 148 = .ok (.return_, 1) := by decide +kernel
theorem dX6_hasCompositor_0 : decode cX6_hasCompositor 0 = .ok (.iload_n 1, 1) := by decide +kernel
theorem dX6_hasCompositor_1 : decode cX6_hasCompositor 1 = .ok (.ifCond .lt 15, 3) := by decide +kernel
theorem dX6_hasCompositor_4 : decode cX6_hasCompositor 4 = .ok (.iload_n 1, 1) := by decide +kernel
theorem dX6_hasCompositor_5 : decode cX6_hasCompositor 5 = .ok (.aload_n 0, 1) := by decide +kernel
theorem dX6_hasCompositor_6 : decode cX6_hasCompositor 6 = .ok (.getfield 32, 3) := by decide +kernel
theorem dX6_hasCompositor_9 : decode cX6_hasCompositor 9 = .ok (.if_icmp .ge 7, 3) := by decide +kernel
theorem dX6_hasCompositor_12 : decode cX6_hasCompositor 12 = .ok (.iconst 1, 1) := by decide +kernel
theorem dX6_hasCompositor_13 : decode cX6_hasCompositor 13 = .ok (.goto 4, 3) := by decide +kernel
theorem dX6_hasCompositor_16 : decode cX6_hasCompositor 16 = .ok (.iconst 0, 1) := by decide +kernel
theorem dX6_hasCompositor_17 : decode cX6_hasCompositor 17 = .ok (.ireturn, 1) := by decide +kernel
theorem dX6_hasReader_0 : decode cX6_hasReader 0 = .ok (.iload_n 1, 1) := by decide +kernel
theorem dX6_hasReader_1 : decode cX6_hasReader 1 = .ok (.ifCond .lt 15, 3) := by decide +kernel
theorem dX6_hasReader_4 : decode cX6_hasReader 4 = .ok (.iload_n 1, 1) := by decide +kernel
theorem dX6_hasReader_5 : decode cX6_hasReader 5 = .ok (.aload_n 0, 1) := by decide +kernel
theorem dX6_hasReader_6 : decode cX6_hasReader 6 = .ok (.getfield 36, 3) := by decide +kernel
theorem dX6_hasReader_9 : decode cX6_hasReader 9 = .ok (.if_icmp .ge 7, 3) := by decide +kernel
theorem dX6_hasReader_12 : decode cX6_hasReader 12 = .ok (.iconst 1, 1) := by decide +kernel
theorem dX6_hasReader_13 : decode cX6_hasReader 13 = .ok (.goto 4, 3) := by decide +kernel
theorem dX6_hasReader_16 : decode cX6_hasReader 16 = .ok (.iconst 0, 1) := by decide +kernel
theorem dX6_hasReader_17 : decode cX6_hasReader 17 = .ok (.ireturn, 1) := by decide +kernel
theorem dX6_isNoticeFor_0 : decode cX6_isNoticeFor 0 = .ok (.aload_n 0, 1) := by decide +kernel
theorem dX6_isNoticeFor_1 : decode cX6_isNoticeFor 1 = .ok (.getfield 12, 3) := by decide +kernel
theorem dX6_isNoticeFor_4 : decode cX6_isNoticeFor 4 = .ok (.iload_n 1, 1) := by decide +kernel
theorem dX6_isNoticeFor_5 : decode cX6_isNoticeFor 5 = .ok (.invokevirtual 79, 3) := by decide +kernel
theorem dX6_isNoticeFor_8 : decode cX6_isNoticeFor 8 = .ok (.ifCond .eq 16, 3) := by decide +kernel
theorem dX6_isNoticeFor_11 : decode cX6_isNoticeFor 11 = .ok (.iload_n 2, 1) := by decide +kernel
theorem dX6_isNoticeFor_12 : decode cX6_isNoticeFor 12 = .ok (.ifCond .lt 12, 3) := by decide +kernel
theorem dX6_isNoticeFor_15 : decode cX6_isNoticeFor 15 = .ok (.iload_n 2, 1) := by decide +kernel
theorem dX6_isNoticeFor_16 : decode cX6_isNoticeFor 16 = .ok (.iconst 4, 1) := by decide +kernel
theorem dX6_isNoticeFor_17 : decode cX6_isNoticeFor 17 = .ok (.if_icmp .ge 7, 3) := by decide +kernel
theorem dX6_isNoticeFor_20 : decode cX6_isNoticeFor 20 = .ok (.iconst 1, 1) := by decide +kernel
theorem dX6_isNoticeFor_21 : decode cX6_isNoticeFor 21 = .ok (.goto 4, 3) := by decide +kernel
theorem dX6_isNoticeFor_24 : decode cX6_isNoticeFor 24 = .ok (.iconst 0, 1) := by decide +kernel
theorem dX6_isNoticeFor_25 : decode cX6_isNoticeFor 25 = .ok (.ireturn, 1) := by decide +kernel
theorem dX6_periodOf_0 : decode cX6_periodOf 0 = .ok (.iload_n 1, 1) := by decide +kernel
theorem dX6_periodOf_1 : decode cX6_periodOf 1 = .ok (.ifCond .lt 21, 3) := by decide +kernel
theorem dX6_periodOf_4 : decode cX6_periodOf 4 = .ok (.iload_n 1, 1) := by decide +kernel
theorem dX6_periodOf_5 : decode cX6_periodOf 5 = .ok (.aload_n 0, 1) := by decide +kernel
theorem dX6_periodOf_6 : decode cX6_periodOf 6 = .ok (.getfield 25, 3) := by decide +kernel
theorem dX6_periodOf_9 : decode cX6_periodOf 9 = .ok (.arraylength, 1) := by decide +kernel
theorem dX6_periodOf_10 : decode cX6_periodOf 10 = .ok (.if_icmp .ge 12, 3) := by decide +kernel
theorem dX6_periodOf_13 : decode cX6_periodOf 13 = .ok (.aload_n 0, 1) := by decide +kernel
theorem dX6_periodOf_14 : decode cX6_periodOf 14 = .ok (.getfield 25, 3) := by decide +kernel
theorem dX6_periodOf_17 : decode cX6_periodOf 17 = .ok (.iload_n 1, 1) := by decide +kernel
theorem dX6_periodOf_18 : decode cX6_periodOf 18 = .ok (.iaload, 1) := by decide +kernel
theorem dX6_periodOf_19 : decode cX6_periodOf 19 = .ok (.goto 4, 3) := by decide +kernel
theorem dX6_periodOf_22 : decode cX6_periodOf 22 = .ok (.iconst 0, 1) := by decide +kernel
theorem dX6_periodOf_23 : decode cX6_periodOf 23 = .ok (.ireturn, 1) := by decide +kernel
theorem dX6_leftOf_0 : decode cX6_leftOf 0 = .ok (.iload_n 1, 1) := by decide +kernel
theorem dX6_leftOf_1 : decode cX6_leftOf 1 = .ok (.ifCond .lt 21, 3) := by decide +kernel
theorem dX6_leftOf_4 : decode cX6_leftOf 4 = .ok (.iload_n 1, 1) := by decide +kernel
theorem dX6_leftOf_5 : decode cX6_leftOf 5 = .ok (.aload_n 0, 1) := by decide +kernel
theorem dX6_leftOf_6 : decode cX6_leftOf 6 = .ok (.getfield 29, 3) := by decide +kernel
theorem dX6_leftOf_9 : decode cX6_leftOf 9 = .ok (.arraylength, 1) := by decide +kernel
theorem dX6_leftOf_10 : decode cX6_leftOf 10 = .ok (.if_icmp .ge 12, 3) := by decide +kernel
theorem dX6_leftOf_13 : decode cX6_leftOf 13 = .ok (.aload_n 0, 1) := by decide +kernel
theorem dX6_leftOf_14 : decode cX6_leftOf 14 = .ok (.getfield 29, 3) := by decide +kernel
theorem dX6_leftOf_17 : decode cX6_leftOf 17 = .ok (.iload_n 1, 1) := by decide +kernel
theorem dX6_leftOf_18 : decode cX6_leftOf 18 = .ok (.iaload, 1) := by decide +kernel
theorem dX6_leftOf_19 : decode cX6_leftOf 19 = .ok (.goto 4, 3) := by decide +kernel
theorem dX6_leftOf_22 : decode cX6_leftOf 22 = .ok (.iconst 0, 1) := by decide +kernel
theorem dX6_leftOf_23 : decode cX6_leftOf 23 = .ok (.ireturn, 1) := by decide +kernel
theorem dX6_readsOn_0 : decode cX6_readsOn 0 = .ok (.aload_n 0, 1) := by decide +kernel
theorem dX6_readsOn_1 : decode cX6_readsOn 1 = .ok (.iload_n 1, 1) := by decide +kernel
theorem dX6_readsOn_2 : decode cX6_readsOn 2 = .ok (.invokevirtual 83, 3) := by decide +kernel
theorem dX6_readsOn_5 : decode cX6_readsOn 5 = .ok (.istore_n 3, 1) := by decide +kernel
theorem dX6_readsOn_6 : decode cX6_readsOn 6 = .ok (.iload_n 3, 1) := by decide +kernel
theorem dX6_readsOn_7 : decode cX6_readsOn 7 = .ok (.ifCond .le 18, 3) := by decide +kernel
theorem dX6_readsOn_10 : decode cX6_readsOn 10 = .ok (.iload_n 2, 1) := by decide +kernel
theorem dX6_readsOn_11 : decode cX6_readsOn 11 = .ok (.iload_n 3, 1) := by decide +kernel
theorem dX6_readsOn_12 : decode cX6_readsOn 12 = .ok (.irem, 1) := by decide +kernel
theorem dX6_readsOn_13 : decode cX6_readsOn 13 = .ok (.aload_n 0, 1) := by decide +kernel
theorem dX6_readsOn_14 : decode cX6_readsOn 14 = .ok (.iload_n 1, 1) := by decide +kernel
theorem dX6_readsOn_15 : decode cX6_readsOn 15 = .ok (.invokevirtual 87, 3) := by decide +kernel
theorem dX6_readsOn_18 : decode cX6_readsOn 18 = .ok (.if_icmp .ne 7, 3) := by decide +kernel
theorem dX6_readsOn_21 : decode cX6_readsOn 21 = .ok (.iconst 1, 1) := by decide +kernel
theorem dX6_readsOn_22 : decode cX6_readsOn 22 = .ok (.goto 4, 3) := by decide +kernel
theorem dX6_readsOn_25 : decode cX6_readsOn 25 = .ok (.iconst 0, 1) := by decide +kernel
theorem dX6_readsOn_26 : decode cX6_readsOn 26 = .ok (.ireturn, 1) := by decide +kernel
theorem dX6_rightOf_0 : decode cX6_rightOf 0 = .ok (.aload_n 0, 1) := by decide +kernel
theorem dX6_rightOf_1 : decode cX6_rightOf 1 = .ok (.getfield 12, 3) := by decide +kernel
theorem dX6_rightOf_4 : decode cX6_rightOf 4 = .ok (.getfield 47, 3) := by decide +kernel
theorem dX6_rightOf_7 : decode cX6_rightOf 7 = .ok (.iload_n 1, 1) := by decide +kernel
theorem dX6_rightOf_8 : decode cX6_rightOf 8 = .ok (.aload_n 0, 1) := by decide +kernel
theorem dX6_rightOf_9 : decode cX6_rightOf 9 = .ok (.getfield 39, 3) := by decide +kernel
theorem dX6_rightOf_12 : decode cX6_rightOf 12 = .ok (.ixor, 1) := by decide +kernel
theorem dX6_rightOf_13 : decode cX6_rightOf 13 = .ok (.invokestatic 90, 3) := by decide +kernel
theorem dX6_rightOf_16 : decode cX6_rightOf 16 = .ok (.isub, 1) := by decide +kernel
theorem dX6_rightOf_17 : decode cX6_rightOf 17 = .ok (.ireturn, 1) := by decide +kernel
theorem dX6_readingToday_0 : decode cX6_readingToday 0 = .ok (.iconst 0, 1) := by decide +kernel
theorem dX6_readingToday_1 : decode cX6_readingToday 1 = .ok (.istore_n 1, 1) := by decide +kernel
theorem dX6_readingToday_2 : decode cX6_readingToday 2 = .ok (.iconst 0, 1) := by decide +kernel
theorem dX6_readingToday_3 : decode cX6_readingToday 3 = .ok (.istore_n 2, 1) := by decide +kernel
theorem dX6_readingToday_4 : decode cX6_readingToday 4 = .ok (.iload_n 2, 1) := by decide +kernel
theorem dX6_readingToday_5 : decode cX6_readingToday 5 = .ok (.aload_n 0, 1) := by decide +kernel
theorem dX6_readingToday_6 : decode cX6_readingToday 6 = .ok (.getfield 36, 3) := by decide +kernel
theorem dX6_readingToday_9 : decode cX6_readingToday 9 = .ok (.if_icmp .ge 30, 3) := by decide +kernel
theorem dX6_readingToday_12 : decode cX6_readingToday 12 = .ok (.aload_n 0, 1) := by decide +kernel
theorem dX6_readingToday_13 : decode cX6_readingToday 13 = .ok (.iload_n 2, 1) := by decide +kernel
theorem dX6_readingToday_14 : decode cX6_readingToday 14 = .ok (.aload_n 0, 1) := by decide +kernel
theorem dX6_readingToday_15 : decode cX6_readingToday 15 = .ok (.getfield 21, 3) := by decide +kernel
theorem dX6_readingToday_18 : decode cX6_readingToday 18 = .ok (.invokevirtual 93, 3) := by decide +kernel
theorem dX6_readingToday_21 : decode cX6_readingToday 21 = .ok (.invokevirtual 97, 3) := by decide +kernel
theorem dX6_readingToday_24 : decode cX6_readingToday 24 = .ok (.ifCond .eq 9, 3) := by decide +kernel
theorem dX6_readingToday_27 : decode cX6_readingToday 27 = .ok (.iload_n 1, 1) := by decide +kernel
theorem dX6_readingToday_28 : decode cX6_readingToday 28 = .ok (.iconst 1, 1) := by decide +kernel
theorem dX6_readingToday_29 : decode cX6_readingToday 29 = .ok (.iload_n 2, 1) := by decide +kernel
theorem dX6_readingToday_30 : decode cX6_readingToday 30 = .ok (.ishl, 1) := by decide +kernel
theorem dX6_readingToday_31 : decode cX6_readingToday 31 = .ok (.ior, 1) := by decide +kernel
theorem dX6_readingToday_32 : decode cX6_readingToday 32 = .ok (.istore_n 1, 1) := by decide +kernel
theorem dX6_readingToday_33 : decode cX6_readingToday 33 = .ok (.iinc 2 1, 3) := by decide +kernel
theorem dX6_readingToday_36 : decode cX6_readingToday 36 = .ok (.goto (-32), 3) := by decide +kernel
theorem dX6_readingToday_39 : decode cX6_readingToday 39 = .ok (.iload_n 1, 1) := by decide +kernel
theorem dX6_readingToday_40 : decode cX6_readingToday 40 = .ok (.ireturn, 1) := by decide +kernel
theorem dX6_believingTruth_0 : decode cX6_believingTruth 0 = .ok (.iconst 0, 1) := by decide +kernel
theorem dX6_believingTruth_1 : decode cX6_believingTruth 1 = .ok (.istore_n 1, 1) := by decide +kernel
theorem dX6_believingTruth_2 : decode cX6_believingTruth 2 = .ok (.iconst 0, 1) := by decide +kernel
theorem dX6_believingTruth_3 : decode cX6_believingTruth 3 = .ok (.istore_n 2, 1) := by decide +kernel
theorem dX6_believingTruth_4 : decode cX6_believingTruth 4 = .ok (.iload_n 2, 1) := by decide +kernel
theorem dX6_believingTruth_5 : decode cX6_believingTruth 5 = .ok (.aload_n 0, 1) := by decide +kernel
theorem dX6_believingTruth_6 : decode cX6_believingTruth 6 = .ok (.getfield 36, 3) := by decide +kernel
theorem dX6_believingTruth_9 : decode cX6_believingTruth 9 = .ok (.if_icmp .ge 30, 3) := by decide +kernel
theorem dX6_believingTruth_12 : decode cX6_believingTruth 12 = .ok (.aload_n 0, 1) := by decide +kernel
theorem dX6_believingTruth_13 : decode cX6_believingTruth 13 = .ok (.getfield 21, 3) := by decide +kernel
theorem dX6_believingTruth_16 : decode cX6_believingTruth 16 = .ok (.iload_n 2, 1) := by decide +kernel
theorem dX6_believingTruth_17 : decode cX6_believingTruth 17 = .ok (.invokevirtual 101, 3) := by decide +kernel
theorem dX6_believingTruth_20 : decode cX6_believingTruth 20 = .ok (.aload_n 0, 1) := by decide +kernel
theorem dX6_believingTruth_21 : decode cX6_believingTruth 21 = .ok (.getfield 39, 3) := by decide +kernel
theorem dX6_believingTruth_24 : decode cX6_believingTruth 24 = .ok (.if_icmp .ne 9, 3) := by decide +kernel
theorem dX6_believingTruth_27 : decode cX6_believingTruth 27 = .ok (.iload_n 1, 1) := by decide +kernel
theorem dX6_believingTruth_28 : decode cX6_believingTruth 28 = .ok (.iconst 1, 1) := by decide +kernel
theorem dX6_believingTruth_29 : decode cX6_believingTruth 29 = .ok (.iload_n 2, 1) := by decide +kernel
theorem dX6_believingTruth_30 : decode cX6_believingTruth 30 = .ok (.ishl, 1) := by decide +kernel
theorem dX6_believingTruth_31 : decode cX6_believingTruth 31 = .ok (.ior, 1) := by decide +kernel
theorem dX6_believingTruth_32 : decode cX6_believingTruth 32 = .ok (.istore_n 1, 1) := by decide +kernel
theorem dX6_believingTruth_33 : decode cX6_believingTruth 33 = .ok (.iinc 2 1, 3) := by decide +kernel
theorem dX6_believingTruth_36 : decode cX6_believingTruth 36 = .ok (.goto (-32), 3) := by decide +kernel
theorem dX6_believingTruth_39 : decode cX6_believingTruth 39 = .ok (.iload_n 1, 1) := by decide +kernel
theorem dX6_believingTruth_40 : decode cX6_believingTruth 40 = .ok (.ireturn, 1) := by decide +kernel
theorem dX6_noticed_0 : decode cX6_noticed 0 = .ok (.aload_n 0, 1) := by decide +kernel
theorem dX6_noticed_1 : decode cX6_noticed 1 = .ok (.getfield 12, 3) := by decide +kernel
theorem dX6_noticed_4 : decode cX6_noticed 4 = .ok (.aload_n 0, 1) := by decide +kernel
theorem dX6_noticed_5 : decode cX6_noticed 5 = .ok (.getfield 21, 3) := by decide +kernel
theorem dX6_noticed_8 : decode cX6_noticed 8 = .ok (.iload_n 1, 1) := by decide +kernel
theorem dX6_noticed_9 : decode cX6_noticed 9 = .ok (.invokevirtual 104, 3) := by decide +kernel
theorem dX6_noticed_12 : decode cX6_noticed 12 = .ok (.iload_n 2, 1) := by decide +kernel
theorem dX6_noticed_13 : decode cX6_noticed 13 = .ok (.iload_n 3, 1) := by decide +kernel
theorem dX6_noticed_14 : decode cX6_noticed 14 = .ok (.iload 4, 2) := by decide +kernel
theorem dX6_noticed_16 : decode cX6_noticed 16 = .ok (.invokevirtual 107, 3) := by decide +kernel
theorem dX6_noticed_19 : decode cX6_noticed 19 = .ok (.ireturn, 1) := by decide +kernel
theorem dX6_printNotice_0 : decode cX6_printNotice 0 = .ok (.aload_n 0, 1) := by decide +kernel
theorem dX6_printNotice_1 : decode cX6_printNotice 1 = .ok (.getfield 21, 3) := by decide +kernel
theorem dX6_printNotice_4 : decode cX6_printNotice 4 = .ok (.aload_n 0, 1) := by decide +kernel
theorem dX6_printNotice_5 : decode cX6_printNotice 5 = .ok (.iload_n 1, 1) := by decide +kernel
theorem dX6_printNotice_6 : decode cX6_printNotice 6 = .ok (.aload_n 0, 1) := by decide +kernel
theorem dX6_printNotice_7 : decode cX6_printNotice 7 = .ok (.getfield 21, 3) := by decide +kernel
theorem dX6_printNotice_10 : decode cX6_printNotice 10 = .ok (.invokevirtual 111, 3) := by decide +kernel
theorem dX6_printNotice_13 : decode cX6_printNotice 13 = .ok (.iload_n 2, 1) := by decide +kernel
theorem dX6_printNotice_14 : decode cX6_printNotice 14 = .ok (.iload_n 3, 1) := by decide +kernel
theorem dX6_printNotice_15 : decode cX6_printNotice 15 = .ok (.invokevirtual 113, 3) := by decide +kernel
theorem dX6_printNotice_18 : decode cX6_printNotice 18 = .ok (.invokevirtual 62, 3) := by decide +kernel
theorem dX6_printNotice_21 : decode cX6_printNotice 21 = .ok (.iconst 0, 1) := by decide +kernel
theorem dX6_printNotice_22 : decode cX6_printNotice 22 = .ok (.istore 4, 2) := by decide +kernel
theorem dX6_printNotice_24 : decode cX6_printNotice 24 = .ok (.iload 4, 2) := by decide +kernel
theorem dX6_printNotice_26 : decode cX6_printNotice 26 = .ok (.aload_n 0, 1) := by decide +kernel
theorem dX6_printNotice_27 : decode cX6_printNotice 27 = .ok (.getfield 36, 3) := by decide +kernel
theorem dX6_printNotice_30 : decode cX6_printNotice 30 = .ok (.if_icmp .ge 50, 3) := by decide +kernel
theorem dX6_printNotice_33 : decode cX6_printNotice 33 = .ok (.aload_n 0, 1) := by decide +kernel
theorem dX6_printNotice_34 : decode cX6_printNotice 34 = .ok (.iload 4, 2) := by decide +kernel
theorem dX6_printNotice_36 : decode cX6_printNotice 36 = .ok (.aload_n 0, 1) := by decide +kernel
theorem dX6_printNotice_37 : decode cX6_printNotice 37 = .ok (.getfield 21, 3) := by decide +kernel
theorem dX6_printNotice_40 : decode cX6_printNotice 40 = .ok (.invokevirtual 93, 3) := by decide +kernel
theorem dX6_printNotice_43 : decode cX6_printNotice 43 = .ok (.invokevirtual 97, 3) := by decide +kernel
theorem dX6_printNotice_46 : decode cX6_printNotice 46 = .ok (.ifCond .eq 28, 3) := by decide +kernel
theorem dX6_printNotice_49 : decode cX6_printNotice 49 = .ok (.aload_n 0, 1) := by decide +kernel
theorem dX6_printNotice_50 : decode cX6_printNotice 50 = .ok (.getfield 21, 3) := by decide +kernel
theorem dX6_printNotice_53 : decode cX6_printNotice 53 = .ok (.iload 4, 2) := by decide +kernel
theorem dX6_printNotice_55 : decode cX6_printNotice 55 = .ok (.aload_n 0, 1) := by decide +kernel
theorem dX6_printNotice_56 : decode cX6_printNotice 56 = .ok (.iload_n 1, 1) := by decide +kernel
theorem dX6_printNotice_57 : decode cX6_printNotice 57 = .ok (.aload_n 0, 1) := by decide +kernel
theorem dX6_printNotice_58 : decode cX6_printNotice 58 = .ok (.getfield 21, 3) := by decide +kernel
theorem dX6_printNotice_61 : decode cX6_printNotice 61 = .ok (.iload 4, 2) := by decide +kernel
theorem dX6_printNotice_63 : decode cX6_printNotice 63 = .ok (.invokevirtual 101, 3) := by decide +kernel
theorem dX6_printNotice_66 : decode cX6_printNotice 66 = .ok (.iload_n 2, 1) := by decide +kernel
theorem dX6_printNotice_67 : decode cX6_printNotice 67 = .ok (.iload_n 3, 1) := by decide +kernel
theorem dX6_printNotice_68 : decode cX6_printNotice 68 = .ok (.invokevirtual 113, 3) := by decide +kernel
theorem dX6_printNotice_71 : decode cX6_printNotice 71 = .ok (.invokevirtual 76, 3) := by decide +kernel
theorem dX6_printNotice_74 : decode cX6_printNotice 74 = .ok (.iinc 4 1, 3) := by decide +kernel
theorem dX6_printNotice_77 : decode cX6_printNotice 77 = .ok (.goto (-53), 3) := by decide +kernel
theorem dX6_printNotice_80 : decode cX6_printNotice 80 = .ok (.aload_n 0, 1) := by decide +kernel
theorem dX6_printNotice_81 : decode cX6_printNotice 81 = .ok (.getfield 21, 3) := by decide +kernel
theorem dX6_printNotice_84 : decode cX6_printNotice 84 = .ok (.invokevirtual 114, 3) := by decide +kernel
theorem dX6_printNotice_87 : decode cX6_printNotice 87 = .ok (.return_, 1) := by decide +kernel
theorem dX7_init_0 : decode cX7_init 0 = .ok (.aload_n 0, 1) := by decide +kernel
theorem dX7_init_1 : decode cX7_init 1 = .ok (.invokespecial 1, 3) := by decide +kernel
theorem dX7_init_4 : decode cX7_init 4 = .ok (.aload_n 0, 1) := by decide +kernel
theorem dX7_init_5 : decode cX7_init 5 = .ok (.iconst 0, 1) := by decide +kernel
theorem dX7_init_6 : decode cX7_init 6 = .ok (.iload_n 1, 1) := by decide +kernel
theorem dX7_init_7 : decode cX7_init 7 = .ok (.invokestatic 7, 3) := by decide +kernel
theorem dX7_init_10 : decode cX7_init 10 = .ok (.bipush 9, 2) := by decide +kernel
theorem dX7_init_12 : decode cX7_init 12 = .ok (.imul, 1) := by decide +kernel
theorem dX7_init_13 : decode cX7_init 13 = .ok (.newarray .int, 2) := by decide +kernel
theorem dX7_init_15 : decode cX7_init 15 = .ok (.putfield 15, 3) := by decide +kernel
theorem dX7_init_18 : decode cX7_init 18 = .ok (.return_, 1) := by decide +kernel
theorem dX7_holds_0 : decode cX7_holds 0 = .ok (.iload_n 1, 1) := by decide +kernel
theorem dX7_holds_1 : decode cX7_holds 1 = .ok (.ifCond .lt 19, 3) := by decide +kernel
theorem dX7_holds_4 : decode cX7_holds 4 = .ok (.iload_n 1, 1) := by decide +kernel
theorem dX7_holds_5 : decode cX7_holds 5 = .ok (.aload_n 0, 1) := by decide +kernel
theorem dX7_holds_6 : decode cX7_holds 6 = .ok (.getfield 15, 3) := by decide +kernel
theorem dX7_holds_9 : decode cX7_holds 9 = .ok (.arraylength, 1) := by decide +kernel
theorem dX7_holds_10 : decode cX7_holds 10 = .ok (.bipush 9, 2) := by decide +kernel
theorem dX7_holds_12 : decode cX7_holds 12 = .ok (.idiv, 1) := by decide +kernel
theorem dX7_holds_13 : decode cX7_holds 13 = .ok (.if_icmp .ge 7, 3) := by decide +kernel
theorem dX7_holds_16 : decode cX7_holds 16 = .ok (.iconst 1, 1) := by decide +kernel
theorem dX7_holds_17 : decode cX7_holds 17 = .ok (.goto 4, 3) := by decide +kernel
theorem dX7_holds_20 : decode cX7_holds 20 = .ok (.iconst 0, 1) := by decide +kernel
theorem dX7_holds_21 : decode cX7_holds 21 = .ok (.ireturn, 1) := by decide +kernel
theorem dX7_put_0 : decode cX7_put 0 = .ok (.aload_n 0, 1) := by decide +kernel
theorem dX7_put_1 : decode cX7_put 1 = .ok (.iload_n 1, 1) := by decide +kernel
theorem dX7_put_2 : decode cX7_put 2 = .ok (.invokevirtual 21, 3) := by decide +kernel
theorem dX7_put_5 : decode cX7_put 5 = .ok (.ifCond .eq 21, 3) := by decide +kernel
theorem dX7_put_8 : decode cX7_put 8 = .ok (.aload_n 2, 1) := by decide +kernel
theorem dX7_put_9 : decode cX7_put 9 = .ok (.getfield 25, 3) := by decide +kernel
theorem dX7_put_12 : decode cX7_put 12 = .ok (.iconst 0, 1) := by decide +kernel
theorem dX7_put_13 : decode cX7_put 13 = .ok (.aload_n 0, 1) := by decide +kernel
theorem dX7_put_14 : decode cX7_put 14 = .ok (.getfield 15, 3) := by decide +kernel
theorem dX7_put_17 : decode cX7_put 17 = .ok (.iload_n 1, 1) := by decide +kernel
theorem dX7_put_18 : decode cX7_put 18 = .ok (.bipush 9, 2) := by decide +kernel
theorem dX7_put_20 : decode cX7_put 20 = .ok (.imul, 1) := by decide +kernel
theorem dX7_put_21 : decode cX7_put 21 = .ok (.bipush 9, 2) := by decide +kernel
theorem dX7_put_23 : decode cX7_put 23 = .ok (.invokestatic 28, 3) := by decide +kernel
theorem dX7_put_26 : decode cX7_put 26 = .ok (.return_, 1) := by decide +kernel
theorem dX7_fetch_0 : decode cX7_fetch 0 = .ok (.aload_n 0, 1) := by decide +kernel
theorem dX7_fetch_1 : decode cX7_fetch 1 = .ok (.iload_n 1, 1) := by decide +kernel
theorem dX7_fetch_2 : decode cX7_fetch 2 = .ok (.invokevirtual 21, 3) := by decide +kernel
theorem dX7_fetch_5 : decode cX7_fetch 5 = .ok (.ifCond .eq 21, 3) := by decide +kernel
theorem dX7_fetch_8 : decode cX7_fetch 8 = .ok (.aload_n 0, 1) := by decide +kernel
theorem dX7_fetch_9 : decode cX7_fetch 9 = .ok (.getfield 15, 3) := by decide +kernel
theorem dX7_fetch_12 : decode cX7_fetch 12 = .ok (.iload_n 1, 1) := by decide +kernel
theorem dX7_fetch_13 : decode cX7_fetch 13 = .ok (.bipush 9, 2) := by decide +kernel
theorem dX7_fetch_15 : decode cX7_fetch 15 = .ok (.imul, 1) := by decide +kernel
theorem dX7_fetch_16 : decode cX7_fetch 16 = .ok (.aload_n 2, 1) := by decide +kernel
theorem dX7_fetch_17 : decode cX7_fetch 17 = .ok (.getfield 25, 3) := by decide +kernel
theorem dX7_fetch_20 : decode cX7_fetch 20 = .ok (.iconst 0, 1) := by decide +kernel
theorem dX7_fetch_21 : decode cX7_fetch 21 = .ok (.bipush 9, 2) := by decide +kernel
theorem dX7_fetch_23 : decode cX7_fetch 23 = .ok (.invokestatic 28, 3) := by decide +kernel
theorem dX7_fetch_26 : decode cX7_fetch 26 = .ok (.return_, 1) := by decide +kernel
theorem dX8_init_0 : decode cX8_init 0 = .ok (.aload_n 0, 1) := by decide +kernel
theorem dX8_init_1 : decode cX8_init 1 = .ok (.invokespecial 3, 3) := by decide +kernel
theorem dX8_init_4 : decode cX8_init 4 = .ok (.aload_n 0, 1) := by decide +kernel
theorem dX8_init_5 : decode cX8_init 5 = .ok (.iconst 1, 1) := by decide +kernel
theorem dX8_init_6 : decode cX8_init 6 = .ok (.putfield 9, 3) := by decide +kernel
theorem dX8_init_9 : decode cX8_init 9 = .ok (.return_, 1) := by decide +kernel
theorem dX8_names_0 : decode cX8_names 0 = .ok (.iconst 1, 1) := by decide +kernel
theorem dX8_names_1 : decode cX8_names 1 = .ok (.iconst 2, 1) := by decide +kernel
theorem dX8_names_2 : decode cX8_names 2 = .ok (.aload_n 0, 1) := by decide +kernel
theorem dX8_names_3 : decode cX8_names 3 = .ok (.getfield 9, 3) := by decide +kernel
theorem dX8_names_6 : decode cX8_names 6 = .ok (.imul, 1) := by decide +kernel
theorem dX8_names_7 : decode cX8_names 7 = .ok (.ishl, 1) := by decide +kernel
theorem dX8_names_8 : decode cX8_names 8 = .ok (.ireturn, 1) := by decide +kernel
theorem dX8_hasPlace_0 : decode cX8_hasPlace 0 = .ok (.iload_n 1, 1) := by decide +kernel
theorem dX8_hasPlace_1 : decode cX8_hasPlace 1 = .ok (.ifCond .lt 15, 3) := by decide +kernel
theorem dX8_hasPlace_4 : decode cX8_hasPlace 4 = .ok (.iload_n 1, 1) := by decide +kernel
theorem dX8_hasPlace_5 : decode cX8_hasPlace 5 = .ok (.aload_n 0, 1) := by decide +kernel
theorem dX8_hasPlace_6 : decode cX8_hasPlace 6 = .ok (.getfield 9, 3) := by decide +kernel
theorem dX8_hasPlace_9 : decode cX8_hasPlace 9 = .ok (.if_icmp .ge 7, 3) := by decide +kernel
theorem dX8_hasPlace_12 : decode cX8_hasPlace 12 = .ok (.iconst 1, 1) := by decide +kernel
theorem dX8_hasPlace_13 : decode cX8_hasPlace 13 = .ok (.goto 4, 3) := by decide +kernel
theorem dX8_hasPlace_16 : decode cX8_hasPlace 16 = .ok (.iconst 0, 1) := by decide +kernel
theorem dX8_hasPlace_17 : decode cX8_hasPlace 17 = .ok (.ireturn, 1) := by decide +kernel
theorem dX8_nextPlace_0 : decode cX8_nextPlace 0 = .ok (.iload_n 1, 1) := by decide +kernel
theorem dX8_nextPlace_1 : decode cX8_nextPlace 1 = .ok (.iconst 1, 1) := by decide +kernel
theorem dX8_nextPlace_2 : decode cX8_nextPlace 2 = .ok (.iadd, 1) := by decide +kernel
theorem dX8_nextPlace_3 : decode cX8_nextPlace 3 = .ok (.aload_n 0, 1) := by decide +kernel
theorem dX8_nextPlace_4 : decode cX8_nextPlace 4 = .ok (.getfield 9, 3) := by decide +kernel
theorem dX8_nextPlace_7 : decode cX8_nextPlace 7 = .ok (.if_icmp .ge 9, 3) := by decide +kernel
end
section
theorem dX8_nextPlace_10 : decode cX8_nextPlace 10 = .ok (.iload_n 1, 1) := by decide +kernel
theorem dX8_nextPlace_11 : decode cX8_nextPlace 11 = .ok (.iconst 1, 1) := by decide +kernel
theorem dX8_nextPlace_12 : decode cX8_nextPlace 12 = .ok (.iadd, 1) := by decide +kernel
theorem dX8_nextPlace_13 : decode cX8_nextPlace 13 = .ok (.goto 4, 3) := by decide +kernel
theorem dX8_nextPlace_16 : decode cX8_nextPlace 16 = .ok (.iconst 0, 1) := by decide +kernel
theorem dX8_nextPlace_17 : decode cX8_nextPlace 17 = .ok (.ireturn, 1) := by decide +kernel
theorem dX8_letterAt_0 : decode cX8_letterAt 0 = .ok (.iload_n 1, 1) := by decide +kernel
theorem dX8_letterAt_1 : decode cX8_letterAt 1 = .ok (.iconst 2, 1) := by decide +kernel
theorem dX8_letterAt_2 : decode cX8_letterAt 2 = .ok (.aload_n 0, 1) := by decide +kernel
theorem dX8_letterAt_3 : decode cX8_letterAt 3 = .ok (.getfield 9, 3) := by decide +kernel
theorem dX8_letterAt_6 : decode cX8_letterAt 6 = .ok (.iconst 1, 1) := by decide +kernel
theorem dX8_letterAt_7 : decode cX8_letterAt 7 = .ok (.isub, 1) := by decide +kernel
theorem dX8_letterAt_8 : decode cX8_letterAt 8 = .ok (.iload_n 2, 1) := by decide +kernel
theorem dX8_letterAt_9 : decode cX8_letterAt 9 = .ok (.isub, 1) := by decide +kernel
theorem dX8_letterAt_10 : decode cX8_letterAt 10 = .ok (.imul, 1) := by decide +kernel
theorem dX8_letterAt_11 : decode cX8_letterAt 11 = .ok (.ishr, 1) := by decide +kernel
theorem dX8_letterAt_12 : decode cX8_letterAt 12 = .ok (.iconst 3, 1) := by decide +kernel
theorem dX8_letterAt_13 : decode cX8_letterAt 13 = .ok (.iand, 1) := by decide +kernel
theorem dX8_letterAt_14 : decode cX8_letterAt 14 = .ok (.ireturn, 1) := by decide +kernel
theorem dX8_withLetter_0 : decode cX8_withLetter 0 = .ok (.iconst 2, 1) := by decide +kernel
theorem dX8_withLetter_1 : decode cX8_withLetter 1 = .ok (.aload_n 0, 1) := by decide +kernel
theorem dX8_withLetter_2 : decode cX8_withLetter 2 = .ok (.getfield 9, 3) := by decide +kernel
theorem dX8_withLetter_5 : decode cX8_withLetter 5 = .ok (.iconst 1, 1) := by decide +kernel
theorem dX8_withLetter_6 : decode cX8_withLetter 6 = .ok (.isub, 1) := by decide +kernel
theorem dX8_withLetter_7 : decode cX8_withLetter 7 = .ok (.iload_n 2, 1) := by decide +kernel
theorem dX8_withLetter_8 : decode cX8_withLetter 8 = .ok (.isub, 1) := by decide +kernel
theorem dX8_withLetter_9 : decode cX8_withLetter 9 = .ok (.imul, 1) := by decide +kernel
theorem dX8_withLetter_10 : decode cX8_withLetter 10 = .ok (.istore 4, 2) := by decide +kernel
theorem dX8_withLetter_12 : decode cX8_withLetter 12 = .ok (.iload_n 1, 1) := by decide +kernel
theorem dX8_withLetter_13 : decode cX8_withLetter 13 = .ok (.iconst 3, 1) := by decide +kernel
theorem dX8_withLetter_14 : decode cX8_withLetter 14 = .ok (.iload 4, 2) := by decide +kernel
theorem dX8_withLetter_16 : decode cX8_withLetter 16 = .ok (.ishl, 1) := by decide +kernel
theorem dX8_withLetter_17 : decode cX8_withLetter 17 = .ok (.iconst (-1), 1) := by decide +kernel
theorem dX8_withLetter_18 : decode cX8_withLetter 18 = .ok (.ixor, 1) := by decide +kernel
theorem dX8_withLetter_19 : decode cX8_withLetter 19 = .ok (.iand, 1) := by decide +kernel
theorem dX8_withLetter_20 : decode cX8_withLetter 20 = .ok (.iload_n 3, 1) := by decide +kernel
theorem dX8_withLetter_21 : decode cX8_withLetter 21 = .ok (.iconst 3, 1) := by decide +kernel
theorem dX8_withLetter_22 : decode cX8_withLetter 22 = .ok (.iand, 1) := by decide +kernel
theorem dX8_withLetter_23 : decode cX8_withLetter 23 = .ok (.iload 4, 2) := by decide +kernel
theorem dX8_withLetter_25 : decode cX8_withLetter 25 = .ok (.ishl, 1) := by decide +kernel
theorem dX8_withLetter_26 : decode cX8_withLetter 26 = .ok (.ior, 1) := by decide +kernel
theorem dX8_withLetter_27 : decode cX8_withLetter 27 = .ok (.ireturn, 1) := by decide +kernel
theorem dX8_noticed_0 : decode cX8_noticed 0 = .ok (.aload_n 0, 1) := by decide +kernel
theorem dX8_noticed_1 : decode cX8_noticed 1 = .ok (.iload_n 3, 1) := by decide +kernel
theorem dX8_noticed_2 : decode cX8_noticed 2 = .ok (.invokevirtual 15, 3) := by decide +kernel
theorem dX8_noticed_5 : decode cX8_noticed 5 = .ok (.istore 5, 2) := by decide +kernel
theorem dX8_noticed_7 : decode cX8_noticed 7 = .ok (.aload_n 0, 1) := by decide +kernel
theorem dX8_noticed_8 : decode cX8_noticed 8 = .ok (.iload_n 2, 1) := by decide +kernel
theorem dX8_noticed_9 : decode cX8_noticed 9 = .ok (.iload_n 3, 1) := by decide +kernel
theorem dX8_noticed_10 : decode cX8_noticed 10 = .ok (.iload 4, 2) := by decide +kernel
theorem dX8_noticed_12 : decode cX8_noticed 12 = .ok (.invokevirtual 19, 3) := by decide +kernel
theorem dX8_noticed_15 : decode cX8_noticed 15 = .ok (.istore 6, 2) := by decide +kernel
theorem dX8_noticed_17 : decode cX8_noticed 17 = .ok (.iload_n 1, 1) := by decide +kernel
theorem dX8_noticed_18 : decode cX8_noticed 18 = .ok (.tableswitch 81 1 3 #[26, 45, 57], 26) := by decide +kernel
theorem dX8_noticed_44 : decode cX8_noticed 44 = .ok (.aload_n 0, 1) := by decide +kernel
theorem dX8_noticed_45 : decode cX8_noticed 45 = .ok (.iload 6, 2) := by decide +kernel
theorem dX8_noticed_47 : decode cX8_noticed 47 = .ok (.iload 5, 2) := by decide +kernel
theorem dX8_noticed_49 : decode cX8_noticed 49 = .ok (.aload_n 0, 1) := by decide +kernel
theorem dX8_noticed_50 : decode cX8_noticed 50 = .ok (.iload 6, 2) := by decide +kernel
theorem dX8_noticed_52 : decode cX8_noticed 52 = .ok (.iload 5, 2) := by decide +kernel
theorem dX8_noticed_54 : decode cX8_noticed 54 = .ok (.invokevirtual 23, 3) := by decide +kernel
theorem dX8_noticed_57 : decode cX8_noticed 57 = .ok (.iconst 1, 1) := by decide +kernel
theorem dX8_noticed_58 : decode cX8_noticed 58 = .ok (.iadd, 1) := by decide +kernel
theorem dX8_noticed_59 : decode cX8_noticed 59 = .ok (.invokevirtual 19, 3) := by decide +kernel
theorem dX8_noticed_62 : decode cX8_noticed 62 = .ok (.ireturn, 1) := by decide +kernel
theorem dX8_noticed_63 : decode cX8_noticed 63 = .ok (.aload_n 0, 1) := by decide +kernel
theorem dX8_noticed_64 : decode cX8_noticed 64 = .ok (.iload 6, 2) := by decide +kernel
theorem dX8_noticed_66 : decode cX8_noticed 66 = .ok (.iload_n 3, 1) := by decide +kernel
theorem dX8_noticed_67 : decode cX8_noticed 67 = .ok (.iload 4, 2) := by decide +kernel
theorem dX8_noticed_69 : decode cX8_noticed 69 = .ok (.iconst 1, 1) := by decide +kernel
theorem dX8_noticed_70 : decode cX8_noticed 70 = .ok (.iadd, 1) := by decide +kernel
theorem dX8_noticed_71 : decode cX8_noticed 71 = .ok (.invokevirtual 19, 3) := by decide +kernel
theorem dX8_noticed_74 : decode cX8_noticed 74 = .ok (.ireturn, 1) := by decide +kernel
theorem dX8_noticed_75 : decode cX8_noticed 75 = .ok (.aload_n 0, 1) := by decide +kernel
theorem dX8_noticed_76 : decode cX8_noticed 76 = .ok (.aload_n 0, 1) := by decide +kernel
theorem dX8_noticed_77 : decode cX8_noticed 77 = .ok (.iload 6, 2) := by decide +kernel
theorem dX8_noticed_79 : decode cX8_noticed 79 = .ok (.iload_n 3, 1) := by decide +kernel
theorem dX8_noticed_80 : decode cX8_noticed 80 = .ok (.aload_n 0, 1) := by decide +kernel
theorem dX8_noticed_81 : decode cX8_noticed 81 = .ok (.iload 6, 2) := by decide +kernel
theorem dX8_noticed_83 : decode cX8_noticed 83 = .ok (.iload 5, 2) := by decide +kernel
theorem dX8_noticed_85 : decode cX8_noticed 85 = .ok (.invokevirtual 23, 3) := by decide +kernel
theorem dX8_noticed_88 : decode cX8_noticed 88 = .ok (.invokevirtual 19, 3) := by decide +kernel
theorem dX8_noticed_91 : decode cX8_noticed 91 = .ok (.iload 5, 2) := by decide +kernel
theorem dX8_noticed_93 : decode cX8_noticed 93 = .ok (.iload 4, 2) := by decide +kernel
theorem dX8_noticed_95 : decode cX8_noticed 95 = .ok (.invokevirtual 19, 3) := by decide +kernel
theorem dX8_noticed_98 : decode cX8_noticed 98 = .ok (.ireturn, 1) := by decide +kernel
theorem dX8_noticed_99 : decode cX8_noticed 99 = .ok (.iload 6, 2) := by decide +kernel
theorem dX8_noticed_101 : decode cX8_noticed 101 = .ok (.ireturn, 1) := by decide +kernel
theorem dX8_placesUnlike_0 : decode cX8_placesUnlike 0 = .ok (.iload_n 0, 1) := by decide +kernel
theorem dX8_placesUnlike_1 : decode cX8_placesUnlike 1 = .ok (.iload_n 0, 1) := by decide +kernel
theorem dX8_placesUnlike_2 : decode cX8_placesUnlike 2 = .ok (.iconst 1, 1) := by decide +kernel
theorem dX8_placesUnlike_3 : decode cX8_placesUnlike 3 = .ok (.ishr, 1) := by decide +kernel
theorem dX8_placesUnlike_4 : decode cX8_placesUnlike 4 = .ok (.ior, 1) := by decide +kernel
theorem dX8_placesUnlike_5 : decode cX8_placesUnlike 5 = .ok (.sipush 341, 3) := by decide +kernel
theorem dX8_placesUnlike_8 : decode cX8_placesUnlike 8 = .ok (.iand, 1) := by decide +kernel
theorem dX8_placesUnlike_9 : decode cX8_placesUnlike 9 = .ok (.invokestatic 27, 3) := by decide +kernel
theorem dX8_placesUnlike_12 : decode cX8_placesUnlike 12 = .ok (.ireturn, 1) := by decide +kernel
theorem dX8_placesAlike_0 : decode cX8_placesAlike 0 = .ok (.iconst 0, 1) := by decide +kernel
theorem dX8_placesAlike_1 : decode cX8_placesAlike 1 = .ok (.istore_n 2, 1) := by decide +kernel
theorem dX8_placesAlike_2 : decode cX8_placesAlike 2 = .ok (.iconst 0, 1) := by decide +kernel
theorem dX8_placesAlike_3 : decode cX8_placesAlike 3 = .ok (.istore_n 3, 1) := by decide +kernel
theorem dX8_placesAlike_4 : decode cX8_placesAlike 4 = .ok (.iload_n 3, 1) := by decide +kernel
theorem dX8_placesAlike_5 : decode cX8_placesAlike 5 = .ok (.aload_n 0, 1) := by decide +kernel
theorem dX8_placesAlike_6 : decode cX8_placesAlike 6 = .ok (.getfield 9, 3) := by decide +kernel
theorem dX8_placesAlike_9 : decode cX8_placesAlike 9 = .ok (.if_icmp .ge 24, 3) := by decide +kernel
theorem dX8_placesAlike_12 : decode cX8_placesAlike 12 = .ok (.aload_n 0, 1) := by decide +kernel
theorem dX8_placesAlike_13 : decode cX8_placesAlike 13 = .ok (.iload_n 1, 1) := by decide +kernel
theorem dX8_placesAlike_14 : decode cX8_placesAlike 14 = .ok (.iload_n 3, 1) := by decide +kernel
theorem dX8_placesAlike_15 : decode cX8_placesAlike 15 = .ok (.invokevirtual 23, 3) := by decide +kernel
theorem dX8_placesAlike_18 : decode cX8_placesAlike 18 = .ok (.ifCond .ne 9, 3) := by decide +kernel
theorem dX8_placesAlike_21 : decode cX8_placesAlike 21 = .ok (.iload_n 2, 1) := by decide +kernel
theorem dX8_placesAlike_22 : decode cX8_placesAlike 22 = .ok (.iconst 1, 1) := by decide +kernel
theorem dX8_placesAlike_23 : decode cX8_placesAlike 23 = .ok (.iload_n 3, 1) := by decide +kernel
theorem dX8_placesAlike_24 : decode cX8_placesAlike 24 = .ok (.ishl, 1) := by decide +kernel
theorem dX8_placesAlike_25 : decode cX8_placesAlike 25 = .ok (.ior, 1) := by decide +kernel
theorem dX8_placesAlike_26 : decode cX8_placesAlike 26 = .ok (.istore_n 2, 1) := by decide +kernel
theorem dX8_placesAlike_27 : decode cX8_placesAlike 27 = .ok (.iinc 3 1, 3) := by decide +kernel
theorem dX8_placesAlike_30 : decode cX8_placesAlike 30 = .ok (.goto (-26), 3) := by decide +kernel
theorem dX8_placesAlike_33 : decode cX8_placesAlike 33 = .ok (.iload_n 2, 1) := by decide +kernel
theorem dX8_placesAlike_34 : decode cX8_placesAlike 34 = .ok (.ireturn, 1) := by decide +kernel
theorem dX8_told_0 : decode cX8_told 0 = .ok (.iconst 0, 1) := by decide +kernel
theorem dX8_told_1 : decode cX8_told 1 = .ok (.istore_n 2, 1) := by decide +kernel
theorem dX8_told_2 : decode cX8_told 2 = .ok (.iconst 0, 1) := by decide +kernel
theorem dX8_told_3 : decode cX8_told 3 = .ok (.istore_n 3, 1) := by decide +kernel
theorem dX8_told_4 : decode cX8_told 4 = .ok (.iload_n 3, 1) := by decide +kernel
theorem dX8_told_5 : decode cX8_told 5 = .ok (.aload_n 0, 1) := by decide +kernel
theorem dX8_told_6 : decode cX8_told 6 = .ok (.getfield 9, 3) := by decide +kernel
theorem dX8_told_9 : decode cX8_told 9 = .ok (.if_icmp .ge 21, 3) := by decide +kernel
theorem dX8_told_12 : decode cX8_told 12 = .ok (.iload_n 2, 1) := by decide +kernel
theorem dX8_told_13 : decode cX8_told 13 = .ok (.bipush 10, 2) := by decide +kernel
theorem dX8_told_15 : decode cX8_told 15 = .ok (.imul, 1) := by decide +kernel
theorem dX8_told_16 : decode cX8_told 16 = .ok (.aload_n 0, 1) := by decide +kernel
theorem dX8_told_17 : decode cX8_told 17 = .ok (.iload_n 1, 1) := by decide +kernel
theorem dX8_told_18 : decode cX8_told 18 = .ok (.iload_n 3, 1) := by decide +kernel
theorem dX8_told_19 : decode cX8_told 19 = .ok (.invokevirtual 23, 3) := by decide +kernel
theorem dX8_told_22 : decode cX8_told 22 = .ok (.iadd, 1) := by decide +kernel
theorem dX8_told_23 : decode cX8_told 23 = .ok (.istore_n 2, 1) := by decide +kernel
theorem dX8_told_24 : decode cX8_told 24 = .ok (.iinc 3 1, 3) := by decide +kernel
theorem dX8_told_27 : decode cX8_told 27 = .ok (.goto (-23), 3) := by decide +kernel
theorem dX8_told_30 : decode cX8_told 30 = .ok (.iload_n 2, 1) := by decide +kernel
theorem dX8_told_31 : decode cX8_told 31 = .ok (.ireturn, 1) := by decide +kernel
theorem dX8_packed_0 : decode cX8_packed 0 = .ok (.iload_n 1, 1) := by decide +kernel
theorem dX8_packed_1 : decode cX8_packed 1 = .ok (.ifCond .ge 6, 3) := by decide +kernel
theorem dX8_packed_4 : decode cX8_packed 4 = .ok (.bipush (-9), 2) := by decide +kernel
theorem dX8_packed_6 : decode cX8_packed 6 = .ok (.ireturn, 1) := by decide +kernel
theorem dX8_packed_7 : decode cX8_packed 7 = .ok (.iconst 0, 1) := by decide +kernel
theorem dX8_packed_8 : decode cX8_packed 8 = .ok (.istore_n 2, 1) := by decide +kernel
theorem dX8_packed_9 : decode cX8_packed 9 = .ok (.iload_n 1, 1) := by decide +kernel
theorem dX8_packed_10 : decode cX8_packed 10 = .ok (.istore_n 3, 1) := by decide +kernel
theorem dX8_packed_11 : decode cX8_packed 11 = .ok (.aload_n 0, 1) := by decide +kernel
theorem dX8_packed_12 : decode cX8_packed 12 = .ok (.getfield 9, 3) := by decide +kernel
theorem dX8_packed_15 : decode cX8_packed 15 = .ok (.iconst 1, 1) := by decide +kernel
theorem dX8_packed_16 : decode cX8_packed 16 = .ok (.isub, 1) := by decide +kernel
theorem dX8_packed_17 : decode cX8_packed 17 = .ok (.istore 4, 2) := by decide +kernel
theorem dX8_packed_19 : decode cX8_packed 19 = .ok (.iload 4, 2) := by decide +kernel
theorem dX8_packed_21 : decode cX8_packed 21 = .ok (.ifCond .lt 37, 3) := by decide +kernel
theorem dX8_packed_24 : decode cX8_packed 24 = .ok (.iload_n 3, 1) := by decide +kernel
theorem dX8_packed_25 : decode cX8_packed 25 = .ok (.bipush 10, 2) := by decide +kernel
theorem dX8_packed_27 : decode cX8_packed 27 = .ok (.irem, 1) := by decide +kernel
theorem dX8_packed_28 : decode cX8_packed 28 = .ok (.iconst 3, 1) := by decide +kernel
theorem dX8_packed_29 : decode cX8_packed 29 = .ok (.if_icmp .le 6, 3) := by decide +kernel
theorem dX8_packed_32 : decode cX8_packed 32 = .ok (.bipush (-9), 2) := by decide +kernel
theorem dX8_packed_34 : decode cX8_packed 34 = .ok (.ireturn, 1) := by decide +kernel
theorem dX8_packed_35 : decode cX8_packed 35 = .ok (.aload_n 0, 1) := by decide +kernel
theorem dX8_packed_36 : decode cX8_packed 36 = .ok (.iload_n 2, 1) := by decide +kernel
theorem dX8_packed_37 : decode cX8_packed 37 = .ok (.iload 4, 2) := by decide +kernel
theorem dX8_packed_39 : decode cX8_packed 39 = .ok (.iload_n 3, 1) := by decide +kernel
theorem dX8_packed_40 : decode cX8_packed 40 = .ok (.bipush 10, 2) := by decide +kernel
theorem dX8_packed_42 : decode cX8_packed 42 = .ok (.irem, 1) := by decide +kernel
theorem dX8_packed_43 : decode cX8_packed 43 = .ok (.invokevirtual 19, 3) := by decide +kernel
theorem dX8_packed_46 : decode cX8_packed 46 = .ok (.istore_n 2, 1) := by decide +kernel
theorem dX8_packed_47 : decode cX8_packed 47 = .ok (.iload_n 3, 1) := by decide +kernel
theorem dX8_packed_48 : decode cX8_packed 48 = .ok (.bipush 10, 2) := by decide +kernel
theorem dX8_packed_50 : decode cX8_packed 50 = .ok (.idiv, 1) := by decide +kernel
theorem dX8_packed_51 : decode cX8_packed 51 = .ok (.istore_n 3, 1) := by decide +kernel
theorem dX8_packed_52 : decode cX8_packed 52 = .ok (.iinc 4 (-1), 3) := by decide +kernel
theorem dX8_packed_55 : decode cX8_packed 55 = .ok (.goto (-36), 3) := by decide +kernel
theorem dX8_packed_58 : decode cX8_packed 58 = .ok (.iload_n 3, 1) := by decide +kernel
theorem dX8_packed_59 : decode cX8_packed 59 = .ok (.ifCond .ne 7, 3) := by decide +kernel
theorem dX8_packed_62 : decode cX8_packed 62 = .ok (.iload_n 2, 1) := by decide +kernel
theorem dX8_packed_63 : decode cX8_packed 63 = .ok (.goto 5, 3) := by decide +kernel
theorem dX8_packed_66 : decode cX8_packed 66 = .ok (.bipush (-9), 2) := by decide +kernel
theorem dX8_packed_68 : decode cX8_packed 68 = .ok (.ireturn, 1) := by decide +kernel
theorem dX9_init_0 : decode cX9_init 0 = .ok (.aload_n 0, 1) := by decide +kernel
theorem dX9_init_1 : decode cX9_init 1 = .ok (.invokespecial 5, 3) := by decide +kernel
theorem dX9_init_4 : decode cX9_init 4 = .ok (.aload_n 0, 1) := by decide +kernel
theorem dX9_init_5 : decode cX9_init 5 = .ok (.bipush 9, 2) := by decide +kernel
theorem dX9_init_7 : decode cX9_init 7 = .ok (.newarray .int, 2) := by decide +kernel
theorem dX9_init_9 : decode cX9_init 9 = .ok (.putfield 11, 3) := by decide +kernel
theorem dX9_init_12 : decode cX9_init 12 = .ok (.return_, 1) := by decide +kernel
theorem dX9_said_0 : decode cX9_said 0 = .ok (.aload_n 0, 1) := by decide +kernel
theorem dX9_said_1 : decode cX9_said 1 = .ok (.getfield 11, 3) := by decide +kernel
theorem dX9_said_4 : decode cX9_said 4 = .ok (.iconst 0, 1) := by decide +kernel
theorem dX9_said_5 : decode cX9_said 5 = .ok (.iaload, 1) := by decide +kernel
theorem dX9_said_6 : decode cX9_said 6 = .ok (.ireturn, 1) := by decide +kernel
theorem dX9_day_0 : decode cX9_day 0 = .ok (.aload_n 0, 1) := by decide +kernel
theorem dX9_day_1 : decode cX9_day 1 = .ok (.getfield 11, 3) := by decide +kernel
theorem dX9_day_4 : decode cX9_day 4 = .ok (.iconst 1, 1) := by decide +kernel
theorem dX9_day_5 : decode cX9_day 5 = .ok (.iaload, 1) := by decide +kernel
theorem dX9_day_6 : decode cX9_day 6 = .ok (.ireturn, 1) := by decide +kernel
theorem dX9_kindOf_0 : decode cX9_kindOf 0 = .ok (.iload_n 1, 1) := by decide +kernel
theorem dX9_kindOf_1 : decode cX9_kindOf 1 = .ok (.ifCond .lt 19, 3) := by decide +kernel
theorem dX9_kindOf_4 : decode cX9_kindOf 4 = .ok (.iload_n 1, 1) := by decide +kernel
theorem dX9_kindOf_5 : decode cX9_kindOf 5 = .ok (.iconst 3, 1) := by decide +kernel
theorem dX9_kindOf_6 : decode cX9_kindOf 6 = .ok (.if_icmp .ge 14, 3) := by decide +kernel
theorem dX9_kindOf_9 : decode cX9_kindOf 9 = .ok (.aload_n 0, 1) := by decide +kernel
theorem dX9_kindOf_10 : decode cX9_kindOf 10 = .ok (.getfield 11, 3) := by decide +kernel
theorem dX9_kindOf_13 : decode cX9_kindOf 13 = .ok (.iconst 2, 1) := by decide +kernel
theorem dX9_kindOf_14 : decode cX9_kindOf 14 = .ok (.iload_n 1, 1) := by decide +kernel
theorem dX9_kindOf_15 : decode cX9_kindOf 15 = .ok (.iadd, 1) := by decide +kernel
theorem dX9_kindOf_16 : decode cX9_kindOf 16 = .ok (.iaload, 1) := by decide +kernel
theorem dX9_kindOf_17 : decode cX9_kindOf 17 = .ok (.goto 4, 3) := by decide +kernel
theorem dX9_kindOf_20 : decode cX9_kindOf 20 = .ok (.iconst 0, 1) := by decide +kernel
theorem dX9_kindOf_21 : decode cX9_kindOf 21 = .ok (.ireturn, 1) := by decide +kernel
theorem dX9_beliefOf_0 : decode cX9_beliefOf 0 = .ok (.iload_n 1, 1) := by decide +kernel
theorem dX9_beliefOf_1 : decode cX9_beliefOf 1 = .ok (.ifCond .lt 19, 3) := by decide +kernel
theorem dX9_beliefOf_4 : decode cX9_beliefOf 4 = .ok (.iload_n 1, 1) := by decide +kernel
theorem dX9_beliefOf_5 : decode cX9_beliefOf 5 = .ok (.iconst 4, 1) := by decide +kernel
theorem dX9_beliefOf_6 : decode cX9_beliefOf 6 = .ok (.if_icmp .ge 14, 3) := by decide +kernel
theorem dX9_beliefOf_9 : decode cX9_beliefOf 9 = .ok (.aload_n 0, 1) := by decide +kernel
theorem dX9_beliefOf_10 : decode cX9_beliefOf 10 = .ok (.getfield 11, 3) := by decide +kernel
theorem dX9_beliefOf_13 : decode cX9_beliefOf 13 = .ok (.iconst 5, 1) := by decide +kernel
theorem dX9_beliefOf_14 : decode cX9_beliefOf 14 = .ok (.iload_n 1, 1) := by decide +kernel
theorem dX9_beliefOf_15 : decode cX9_beliefOf 15 = .ok (.iadd, 1) := by decide +kernel
theorem dX9_beliefOf_16 : decode cX9_beliefOf 16 = .ok (.iaload, 1) := by decide +kernel
theorem dX9_beliefOf_17 : decode cX9_beliefOf 17 = .ok (.goto 5, 3) := by decide +kernel
theorem dX9_beliefOf_20 : decode cX9_beliefOf 20 = .ok (.bipush (-9), 2) := by decide +kernel
theorem dX9_beliefOf_22 : decode cX9_beliefOf 22 = .ok (.ireturn, 1) := by decide +kernel
theorem dX9_setSaid_0 : decode cX9_setSaid 0 = .ok (.aload_n 0, 1) := by decide +kernel
theorem dX9_setSaid_1 : decode cX9_setSaid 1 = .ok (.getfield 11, 3) := by decide +kernel
theorem dX9_setSaid_4 : decode cX9_setSaid 4 = .ok (.iconst 0, 1) := by decide +kernel
theorem dX9_setSaid_5 : decode cX9_setSaid 5 = .ok (.iload_n 1, 1) := by decide +kernel
theorem dX9_setSaid_6 : decode cX9_setSaid 6 = .ok (.iastore, 1) := by decide +kernel
theorem dX9_setSaid_7 : decode cX9_setSaid 7 = .ok (.return_, 1) := by decide +kernel
theorem dX9_startDays_0 : decode cX9_startDays 0 = .ok (.aload_n 0, 1) := by decide +kernel
theorem dX9_startDays_1 : decode cX9_startDays 1 = .ok (.getfield 11, 3) := by decide +kernel
theorem dX9_startDays_4 : decode cX9_startDays 4 = .ok (.iconst 1, 1) := by decide +kernel
theorem dX9_startDays_5 : decode cX9_startDays 5 = .ok (.iconst 0, 1) := by decide +kernel
theorem dX9_startDays_6 : decode cX9_startDays 6 = .ok (.iastore, 1) := by decide +kernel
theorem dX9_startDays_7 : decode cX9_startDays 7 = .ok (.return_, 1) := by decide +kernel
theorem dX9_nextDay_0 : decode cX9_nextDay 0 = .ok (.aload_n 0, 1) := by decide +kernel
theorem dX9_nextDay_1 : decode cX9_nextDay 1 = .ok (.getfield 11, 3) := by decide +kernel
theorem dX9_nextDay_4 : decode cX9_nextDay 4 = .ok (.iconst 1, 1) := by decide +kernel
theorem dX9_nextDay_5 : decode cX9_nextDay 5 = .ok (.dup2, 1) := by decide +kernel
theorem dX9_nextDay_6 : decode cX9_nextDay 6 = .ok (.iaload, 1) := by decide +kernel
theorem dX9_nextDay_7 : decode cX9_nextDay 7 = .ok (.iconst 1, 1) := by decide +kernel
theorem dX9_nextDay_8 : decode cX9_nextDay 8 = .ok (.iadd, 1) := by decide +kernel
theorem dX9_nextDay_9 : decode cX9_nextDay 9 = .ok (.iastore, 1) := by decide +kernel
theorem dX9_nextDay_10 : decode cX9_nextDay 10 = .ok (.return_, 1) := by decide +kernel
theorem dX9_setKind_0 : decode cX9_setKind 0 = .ok (.iload_n 1, 1) := by decide +kernel
theorem dX9_setKind_1 : decode cX9_setKind 1 = .ok (.ifCond .lt 17, 3) := by decide +kernel
theorem dX9_setKind_4 : decode cX9_setKind 4 = .ok (.iload_n 1, 1) := by decide +kernel
theorem dX9_setKind_5 : decode cX9_setKind 5 = .ok (.iconst 3, 1) := by decide +kernel
theorem dX9_setKind_6 : decode cX9_setKind 6 = .ok (.if_icmp .ge 12, 3) := by decide +kernel
theorem dX9_setKind_9 : decode cX9_setKind 9 = .ok (.aload_n 0, 1) := by decide +kernel
theorem dX9_setKind_10 : decode cX9_setKind 10 = .ok (.getfield 11, 3) := by decide +kernel
theorem dX9_setKind_13 : decode cX9_setKind 13 = .ok (.iconst 2, 1) := by decide +kernel
theorem dX9_setKind_14 : decode cX9_setKind 14 = .ok (.iload_n 1, 1) := by decide +kernel
theorem dX9_setKind_15 : decode cX9_setKind 15 = .ok (.iadd, 1) := by decide +kernel
theorem dX9_setKind_16 : decode cX9_setKind 16 = .ok (.iload_n 2, 1) := by decide +kernel
theorem dX9_setKind_17 : decode cX9_setKind 17 = .ok (.iastore, 1) := by decide +kernel
theorem dX9_setKind_18 : decode cX9_setKind 18 = .ok (.return_, 1) := by decide +kernel
theorem dX9_setBelief_0 : decode cX9_setBelief 0 = .ok (.iload_n 1, 1) := by decide +kernel
theorem dX9_setBelief_1 : decode cX9_setBelief 1 = .ok (.ifCond .lt 17, 3) := by decide +kernel
theorem dX9_setBelief_4 : decode cX9_setBelief 4 = .ok (.iload_n 1, 1) := by decide +kernel
theorem dX9_setBelief_5 : decode cX9_setBelief 5 = .ok (.iconst 4, 1) := by decide +kernel
theorem dX9_setBelief_6 : decode cX9_setBelief 6 = .ok (.if_icmp .ge 12, 3) := by decide +kernel
theorem dX9_setBelief_9 : decode cX9_setBelief 9 = .ok (.aload_n 0, 1) := by decide +kernel
theorem dX9_setBelief_10 : decode cX9_setBelief 10 = .ok (.getfield 11, 3) := by decide +kernel
theorem dX9_setBelief_13 : decode cX9_setBelief 13 = .ok (.iconst 5, 1) := by decide +kernel
theorem dX9_setBelief_14 : decode cX9_setBelief 14 = .ok (.iload_n 1, 1) := by decide +kernel
theorem dX9_setBelief_15 : decode cX9_setBelief 15 = .ok (.iadd, 1) := by decide +kernel
theorem dX9_setBelief_16 : decode cX9_setBelief 16 = .ok (.iload_n 2, 1) := by decide +kernel
theorem dX9_setBelief_17 : decode cX9_setBelief 17 = .ok (.iastore, 1) := by decide +kernel
theorem dX9_setBelief_18 : decode cX9_setBelief 18 = .ok (.return_, 1) := by decide +kernel
theorem dX10_init_0 : decode cX10_init 0 = .ok (.aload_n 0, 1) := by decide +kernel
theorem dX10_init_1 : decode cX10_init 1 = .ok (.invokespecial 3, 3) := by decide +kernel
theorem dX10_init_4 : decode cX10_init 4 = .ok (.aload_n 0, 1) := by decide +kernel
theorem dX10_init_5 : decode cX10_init 5 = .ok (.bipush 40, 2) := by decide +kernel
theorem dX10_init_7 : decode cX10_init 7 = .ok (.newarray .int, 2) := by decide +kernel
theorem dX10_init_9 : decode cX10_init 9 = .ok (.putfield 9, 3) := by decide +kernel
theorem dX10_init_12 : decode cX10_init 12 = .ok (.aload_n 0, 1) := by decide +kernel
theorem dX10_init_13 : decode cX10_init 13 = .ok (.iconst 3, 1) := by decide +kernel
theorem dX10_init_14 : decode cX10_init 14 = .ok (.newarray .int, 2) := by decide +kernel
theorem dX10_init_16 : decode cX10_init 16 = .ok (.putfield 15, 3) := by decide +kernel
theorem dX10_init_19 : decode cX10_init 19 = .ok (.aload_n 0, 1) := by decide +kernel
theorem dX10_init_20 : decode cX10_init 20 = .ok (.iconst 4, 1) := by decide +kernel
theorem dX10_init_21 : decode cX10_init 21 = .ok (.newarray .int, 2) := by decide +kernel
theorem dX10_init_23 : decode cX10_init 23 = .ok (.putfield 18, 3) := by decide +kernel
theorem dX10_init_26 : decode cX10_init 26 = .ok (.aload_n 0, 1) := by decide +kernel
theorem dX10_init_27 : decode cX10_init 27 = .ok (.iconst 4, 1) := by decide +kernel
theorem dX10_init_28 : decode cX10_init 28 = .ok (.newarray .int, 2) := by decide +kernel
theorem dX10_init_30 : decode cX10_init 30 = .ok (.putfield 21, 3) := by decide +kernel
theorem dX10_init_33 : decode cX10_init 33 = .ok (.aload_n 0, 1) := by decide +kernel
theorem dX10_init_34 : decode cX10_init 34 = .ok (.iconst 0, 1) := by decide +kernel
theorem dX10_init_35 : decode cX10_init 35 = .ok (.putfield 24, 3) := by decide +kernel
theorem dX10_init_38 : decode cX10_init 38 = .ok (.return_, 1) := by decide +kernel
theorem dX10_add_0 : decode cX10_add 0 = .ok (.aload_n 0, 1) := by decide +kernel
theorem dX10_add_1 : decode cX10_add 1 = .ok (.getfield 24, 3) := by decide +kernel
theorem dX10_add_4 : decode cX10_add 4 = .ok (.ifCond .lt 15, 3) := by decide +kernel
theorem dX10_add_7 : decode cX10_add 7 = .ok (.aload_n 0, 1) := by decide +kernel
theorem dX10_add_8 : decode cX10_add 8 = .ok (.getfield 24, 3) := by decide +kernel
theorem dX10_add_11 : decode cX10_add 11 = .ok (.aload_n 0, 1) := by decide +kernel
theorem dX10_add_12 : decode cX10_add 12 = .ok (.getfield 9, 3) := by decide +kernel
theorem dX10_add_15 : decode cX10_add 15 = .ok (.arraylength, 1) := by decide +kernel
theorem dX10_add_16 : decode cX10_add 16 = .ok (.if_icmp .lt 5, 3) := by decide +kernel
theorem dX10_add_19 : decode cX10_add 19 = .ok (.iconst 0, 1) := by decide +kernel
theorem dX10_add_20 : decode cX10_add 20 = .ok (.ireturn, 1) := by decide +kernel
theorem dX10_add_21 : decode cX10_add 21 = .ok (.aload_n 0, 1) := by decide +kernel
theorem dX10_add_22 : decode cX10_add 22 = .ok (.getfield 9, 3) := by decide +kernel
theorem dX10_add_25 : decode cX10_add 25 = .ok (.aload_n 0, 1) := by decide +kernel
theorem dX10_add_26 : decode cX10_add 26 = .ok (.getfield 24, 3) := by decide +kernel
theorem dX10_add_29 : decode cX10_add 29 = .ok (.iload_n 1, 1) := by decide +kernel
theorem dX10_add_30 : decode cX10_add 30 = .ok (.iastore, 1) := by decide +kernel
theorem dX10_add_31 : decode cX10_add 31 = .ok (.aload_n 0, 1) := by decide +kernel
theorem dX10_add_32 : decode cX10_add 32 = .ok (.dup, 1) := by decide +kernel
theorem dX10_add_33 : decode cX10_add 33 = .ok (.getfield 24, 3) := by decide +kernel
theorem dX10_add_36 : decode cX10_add 36 = .ok (.iconst 1, 1) := by decide +kernel
theorem dX10_add_37 : decode cX10_add 37 = .ok (.iadd, 1) := by decide +kernel
theorem dX10_add_38 : decode cX10_add 38 = .ok (.putfield 24, 3) := by decide +kernel
theorem dX10_add_41 : decode cX10_add 41 = .ok (.iconst 1, 1) := by decide +kernel
theorem dX10_add_42 : decode cX10_add 42 = .ok (.ireturn, 1) := by decide +kernel
theorem dX10_findFault_0 : decode cX10_findFault 0 = .ok (.aload_n 0, 1) := by decide +kernel
theorem dX10_findFault_1 : decode cX10_findFault 1 = .ok (.iconst 0, 1) := by decide +kernel
theorem dX10_findFault_2 : decode cX10_findFault 2 = .ok (.putfield 28, 3) := by decide +kernel
theorem dX10_findFault_5 : decode cX10_findFault 5 = .ok (.aload_n 0, 1) := by decide +kernel
theorem dX10_findFault_6 : decode cX10_findFault 6 = .ok (.iconst 0, 1) := by decide +kernel
theorem dX10_findFault_7 : decode cX10_findFault 7 = .ok (.putfield 31, 3) := by decide +kernel
theorem dX10_findFault_10 : decode cX10_findFault 10 = .ok (.aload_n 0, 1) := by decide +kernel
theorem dX10_findFault_11 : decode cX10_findFault 11 = .ok (.iconst 0, 1) := by decide +kernel
theorem dX10_findFault_12 : decode cX10_findFault 12 = .ok (.putfield 34, 3) := by decide +kernel
theorem dX10_findFault_15 : decode cX10_findFault 15 = .ok (.aload_n 0, 1) := by decide +kernel
theorem dX10_findFault_16 : decode cX10_findFault 16 = .ok (.iconst 0, 1) := by decide +kernel
theorem dX10_findFault_17 : decode cX10_findFault 17 = .ok (.putfield 37, 3) := by decide +kernel
theorem dX10_findFault_20 : decode cX10_findFault 20 = .ok (.aload_n 0, 1) := by decide +kernel
theorem dX10_findFault_21 : decode cX10_findFault 21 = .ok (.iconst 0, 1) := by decide +kernel
theorem dX10_findFault_22 : decode cX10_findFault 22 = .ok (.putfield 40, 3) := by decide +kernel
theorem dX10_findFault_25 : decode cX10_findFault 25 = .ok (.aload_n 0, 1) := by decide +kernel
theorem dX10_findFault_26 : decode cX10_findFault 26 = .ok (.iconst 0, 1) := by decide +kernel
theorem dX10_findFault_27 : decode cX10_findFault 27 = .ok (.putfield 43, 3) := by decide +kernel
theorem dX10_findFault_30 : decode cX10_findFault 30 = .ok (.aload_n 0, 1) := by decide +kernel
theorem dX10_findFault_31 : decode cX10_findFault 31 = .ok (.iconst 0, 1) := by decide +kernel
theorem dX10_findFault_32 : decode cX10_findFault 32 = .ok (.putfield 46, 3) := by decide +kernel
theorem dX10_findFault_35 : decode cX10_findFault 35 = .ok (.iconst 0, 1) := by decide +kernel
theorem dX10_findFault_36 : decode cX10_findFault 36 = .ok (.istore_n 1, 1) := by decide +kernel
theorem dX10_findFault_37 : decode cX10_findFault 37 = .ok (.iload_n 1, 1) := by decide +kernel
theorem dX10_findFault_38 : decode cX10_findFault 38 = .ok (.aload_n 0, 1) := by decide +kernel
theorem dX10_findFault_39 : decode cX10_findFault 39 = .ok (.getfield 24, 3) := by decide +kernel
theorem dX10_findFault_42 : decode cX10_findFault 42 = .ok (.if_icmp .ge 33, 3) := by decide +kernel
theorem dX10_findFault_45 : decode cX10_findFault 45 = .ok (.iload_n 1, 1) := by decide +kernel
theorem dX10_findFault_46 : decode cX10_findFault 46 = .ok (.aload_n 0, 1) := by decide +kernel
theorem dX10_findFault_47 : decode cX10_findFault 47 = .ok (.getfield 9, 3) := by decide +kernel
theorem dX10_findFault_50 : decode cX10_findFault 50 = .ok (.arraylength, 1) := by decide +kernel
theorem dX10_findFault_51 : decode cX10_findFault 51 = .ok (.if_icmp .ge 24, 3) := by decide +kernel
theorem dX10_findFault_54 : decode cX10_findFault 54 = .ok (.aload_n 0, 1) := by decide +kernel
theorem dX10_findFault_55 : decode cX10_findFault 55 = .ok (.aload_n 0, 1) := by decide +kernel
theorem dX10_findFault_56 : decode cX10_findFault 56 = .ok (.getfield 9, 3) := by decide +kernel
theorem dX10_findFault_59 : decode cX10_findFault 59 = .ok (.iload_n 1, 1) := by decide +kernel
theorem dX10_findFault_60 : decode cX10_findFault 60 = .ok (.iaload, 1) := by decide +kernel
theorem dX10_findFault_61 : decode cX10_findFault 61 = .ok (.invokevirtual 49, 3) := by decide +kernel
theorem dX10_findFault_64 : decode cX10_findFault 64 = .ok (.ifCond .ne 5, 3) := by decide +kernel
theorem dX10_findFault_67 : decode cX10_findFault 67 = .ok (.iload_n 1, 1) := by decide +kernel
theorem dX10_findFault_68 : decode cX10_findFault 68 = .ok (.ireturn, 1) := by decide +kernel
theorem dX10_findFault_69 : decode cX10_findFault 69 = .ok (.iinc 1 1, 3) := by decide +kernel
theorem dX10_findFault_72 : decode cX10_findFault 72 = .ok (.goto (-35), 3) := by decide +kernel
theorem dX10_findFault_75 : decode cX10_findFault 75 = .ok (.aload_n 0, 1) := by decide +kernel
theorem dX10_findFault_76 : decode cX10_findFault 76 = .ok (.getfield 46, 3) := by decide +kernel
theorem dX10_findFault_79 : decode cX10_findFault 79 = .ok (.iconst 3, 1) := by decide +kernel
theorem dX10_findFault_80 : decode cX10_findFault 80 = .ok (.if_icmp .ne 8, 3) := by decide +kernel
theorem dX10_findFault_83 : decode cX10_findFault 83 = .ok (.bipush (-9), 2) := by decide +kernel
theorem dX10_findFault_85 : decode cX10_findFault 85 = .ok (.goto 7, 3) := by decide +kernel
theorem dX10_findFault_88 : decode cX10_findFault 88 = .ok (.aload_n 0, 1) := by decide +kernel
theorem dX10_findFault_89 : decode cX10_findFault 89 = .ok (.getfield 24, 3) := by decide +kernel
theorem dX10_findFault_92 : decode cX10_findFault 92 = .ok (.ireturn, 1) := by decide +kernel
theorem dX10_accepts_0 : decode cX10_accepts 0 = .ok (.aload_n 0, 1) := by decide +kernel
theorem dX10_accepts_1 : decode cX10_accepts 1 = .ok (.getfield 46, 3) := by decide +kernel
theorem dX10_accepts_4 : decode cX10_accepts 4 = .ok (.tableswitch 76 0 5 #[40, 46, 52, 58, 64, 70], 40) := by decide +kernel
theorem dX10_accepts_44 : decode cX10_accepts 44 = .ok (.aload_n 0, 1) := by decide +kernel
theorem dX10_accepts_45 : decode cX10_accepts 45 = .ok (.iload_n 1, 1) := by decide +kernel
theorem dX10_accepts_46 : decode cX10_accepts 46 = .ok (.invokevirtual 53, 3) := by decide +kernel
theorem dX10_accepts_49 : decode cX10_accepts 49 = .ok (.ireturn, 1) := by decide +kernel
theorem dX10_accepts_50 : decode cX10_accepts 50 = .ok (.aload_n 0, 1) := by decide +kernel
theorem dX10_accepts_51 : decode cX10_accepts 51 = .ok (.iload_n 1, 1) := by decide +kernel
theorem dX10_accepts_52 : decode cX10_accepts 52 = .ok (.invokevirtual 56, 3) := by decide +kernel
theorem dX10_accepts_55 : decode cX10_accepts 55 = .ok (.ireturn, 1) := by decide +kernel
theorem dX10_accepts_56 : decode cX10_accepts 56 = .ok (.aload_n 0, 1) := by decide +kernel
theorem dX10_accepts_57 : decode cX10_accepts 57 = .ok (.iload_n 1, 1) := by decide +kernel
theorem dX10_accepts_58 : decode cX10_accepts 58 = .ok (.invokevirtual 59, 3) := by decide +kernel
theorem dX10_accepts_61 : decode cX10_accepts 61 = .ok (.ireturn, 1) := by decide +kernel
theorem dX10_accepts_62 : decode cX10_accepts 62 = .ok (.aload_n 0, 1) := by decide +kernel
theorem dX10_accepts_63 : decode cX10_accepts 63 = .ok (.iload_n 1, 1) := by decide +kernel
theorem dX10_accepts_64 : decode cX10_accepts 64 = .ok (.invokevirtual 62, 3) := by decide +kernel
theorem dX10_accepts_67 : decode cX10_accepts 67 = .ok (.ireturn, 1) := by decide +kernel
theorem dX10_accepts_68 : decode cX10_accepts 68 = .ok (.aload_n 0, 1) := by decide +kernel
theorem dX10_accepts_69 : decode cX10_accepts 69 = .ok (.iload_n 1, 1) := by decide +kernel
theorem dX10_accepts_70 : decode cX10_accepts 70 = .ok (.invokevirtual 65, 3) := by decide +kernel
theorem dX10_accepts_73 : decode cX10_accepts 73 = .ok (.ireturn, 1) := by decide +kernel
theorem dX10_accepts_74 : decode cX10_accepts 74 = .ok (.aload_n 0, 1) := by decide +kernel
theorem dX10_accepts_75 : decode cX10_accepts 75 = .ok (.iload_n 1, 1) := by decide +kernel
theorem dX10_accepts_76 : decode cX10_accepts 76 = .ok (.invokevirtual 68, 3) := by decide +kernel
theorem dX10_accepts_79 : decode cX10_accepts 79 = .ok (.ireturn, 1) := by decide +kernel
theorem dX10_accepts_80 : decode cX10_accepts 80 = .ok (.aload_n 0, 1) := by decide +kernel
theorem dX10_accepts_81 : decode cX10_accepts 81 = .ok (.iload_n 1, 1) := by decide +kernel
theorem dX10_accepts_82 : decode cX10_accepts 82 = .ok (.invokevirtual 71, 3) := by decide +kernel
theorem dX10_accepts_85 : decode cX10_accepts 85 = .ok (.ireturn, 1) := by decide +kernel
theorem dX10_acceptsE_0 : decode cX10_acceptsE 0 = .ok (.aload_n 0, 1) := by decide +kernel
theorem dX10_acceptsE_1 : decode cX10_acceptsE 1 = .ok (.iconst 1, 1) := by decide +kernel
theorem dX10_acceptsE_2 : decode cX10_acceptsE 2 = .ok (.putfield 46, 3) := by decide +kernel
theorem dX10_acceptsE_5 : decode cX10_acceptsE 5 = .ok (.iload_n 1, 1) := by decide +kernel
theorem dX10_acceptsE_6 : decode cX10_acceptsE 6 = .ok (.bipush 69, 2) := by decide +kernel
theorem dX10_acceptsE_8 : decode cX10_acceptsE 8 = .ok (.if_icmp .ne 7, 3) := by decide +kernel
theorem dX10_acceptsE_11 : decode cX10_acceptsE 11 = .ok (.iconst 1, 1) := by decide +kernel
theorem dX10_acceptsE_12 : decode cX10_acceptsE 12 = .ok (.goto 4, 3) := by decide +kernel
theorem dX10_acceptsE_15 : decode cX10_acceptsE 15 = .ok (.iconst 0, 1) := by decide +kernel
theorem dX10_acceptsE_16 : decode cX10_acceptsE 16 = .ok (.ireturn, 1) := by decide +kernel
theorem dX10_acceptsTruth_0 : decode cX10_acceptsTruth 0 = .ok (.iload_n 1, 1) := by decide +kernel
theorem dX10_acceptsTruth_1 : decode cX10_acceptsTruth 1 = .ok (.bipush 47, 2) := by decide +kernel
theorem dX10_acceptsTruth_3 : decode cX10_acceptsTruth 3 = .ok (.if_icmp .ne 21, 3) := by decide +kernel
theorem dX10_acceptsTruth_6 : decode cX10_acceptsTruth 6 = .ok (.aload_n 0, 1) := by decide +kernel
theorem dX10_acceptsTruth_7 : decode cX10_acceptsTruth 7 = .ok (.iconst 2, 1) := by decide +kernel
theorem dX10_acceptsTruth_8 : decode cX10_acceptsTruth 8 = .ok (.putfield 46, 3) := by decide +kernel
theorem dX10_acceptsTruth_11 : decode cX10_acceptsTruth 11 = .ok (.aload_n 0, 1) := by decide +kernel
theorem dX10_acceptsTruth_12 : decode cX10_acceptsTruth 12 = .ok (.getfield 34, 3) := by decide +kernel
theorem dX10_acceptsTruth_15 : decode cX10_acceptsTruth 15 = .ok (.ifCond .le 7, 3) := by decide +kernel
theorem dX10_acceptsTruth_18 : decode cX10_acceptsTruth 18 = .ok (.iconst 1, 1) := by decide +kernel
theorem dX10_acceptsTruth_19 : decode cX10_acceptsTruth 19 = .ok (.goto 4, 3) := by decide +kernel
theorem dX10_acceptsTruth_22 : decode cX10_acceptsTruth 22 = .ok (.iconst 0, 1) := by decide +kernel
theorem dX10_acceptsTruth_23 : decode cX10_acceptsTruth 23 = .ok (.ireturn, 1) := by decide +kernel
theorem dX10_acceptsTruth_24 : decode cX10_acceptsTruth 24 = .ok (.aload_n 0, 1) := by decide +kernel
theorem dX10_acceptsTruth_25 : decode cX10_acceptsTruth 25 = .ok (.aload_n 0, 1) := by decide +kernel
theorem dX10_acceptsTruth_26 : decode cX10_acceptsTruth 26 = .ok (.getfield 40, 3) := by decide +kernel
theorem dX10_acceptsTruth_29 : decode cX10_acceptsTruth 29 = .ok (.iconst 4, 1) := by decide +kernel
theorem dX10_acceptsTruth_30 : decode cX10_acceptsTruth 30 = .ok (.imul, 1) := by decide +kernel
theorem dX10_acceptsTruth_31 : decode cX10_acceptsTruth 31 = .ok (.iload_n 1, 1) := by decide +kernel
theorem dX10_acceptsTruth_32 : decode cX10_acceptsTruth 32 = .ok (.bipush 97, 2) := by decide +kernel
theorem dX10_acceptsTruth_34 : decode cX10_acceptsTruth 34 = .ok (.isub, 1) := by decide +kernel
theorem dX10_acceptsTruth_35 : decode cX10_acceptsTruth 35 = .ok (.iadd, 1) := by decide +kernel
theorem dX10_acceptsTruth_36 : decode cX10_acceptsTruth 36 = .ok (.putfield 40, 3) := by decide +kernel
theorem dX10_acceptsTruth_39 : decode cX10_acceptsTruth 39 = .ok (.aload_n 0, 1) := by decide +kernel
theorem dX10_acceptsTruth_40 : decode cX10_acceptsTruth 40 = .ok (.dup, 1) := by decide +kernel
theorem dX10_acceptsTruth_41 : decode cX10_acceptsTruth 41 = .ok (.getfield 34, 3) := by decide +kernel
theorem dX10_acceptsTruth_44 : decode cX10_acceptsTruth 44 = .ok (.iconst 1, 1) := by decide +kernel
theorem dX10_acceptsTruth_45 : decode cX10_acceptsTruth 45 = .ok (.iadd, 1) := by decide +kernel
theorem dX10_acceptsTruth_46 : decode cX10_acceptsTruth 46 = .ok (.putfield 34, 3) := by decide +kernel
theorem dX10_acceptsTruth_49 : decode cX10_acceptsTruth 49 = .ok (.iload_n 1, 1) := by decide +kernel
theorem dX10_acceptsTruth_50 : decode cX10_acceptsTruth 50 = .ok (.invokestatic 74, 3) := by decide +kernel
theorem dX10_acceptsTruth_53 : decode cX10_acceptsTruth 53 = .ok (.ifCond .eq 15, 3) := by decide +kernel
theorem dX10_acceptsTruth_56 : decode cX10_acceptsTruth 56 = .ok (.aload_n 0, 1) := by decide +kernel
theorem dX10_acceptsTruth_57 : decode cX10_acceptsTruth 57 = .ok (.getfield 34, 3) := by decide +kernel
theorem dX10_acceptsTruth_60 : decode cX10_acceptsTruth 60 = .ok (.iconst 5, 1) := by decide +kernel
theorem dX10_acceptsTruth_61 : decode cX10_acceptsTruth 61 = .ok (.if_icmp .gt 7, 3) := by decide +kernel
theorem dX10_acceptsTruth_64 : decode cX10_acceptsTruth 64 = .ok (.iconst 1, 1) := by decide +kernel
theorem dX10_acceptsTruth_65 : decode cX10_acceptsTruth 65 = .ok (.goto 4, 3) := by decide +kernel
theorem dX10_acceptsTruth_68 : decode cX10_acceptsTruth 68 = .ok (.iconst 0, 1) := by decide +kernel
theorem dX10_acceptsTruth_69 : decode cX10_acceptsTruth 69 = .ok (.ireturn, 1) := by decide +kernel
theorem dX10_acceptsSaid_0 : decode cX10_acceptsSaid 0 = .ok (.aload_n 0, 1) := by decide +kernel
theorem dX10_acceptsSaid_1 : decode cX10_acceptsSaid 1 = .ok (.aload_n 0, 1) := by decide +kernel
theorem dX10_acceptsSaid_2 : decode cX10_acceptsSaid 2 = .ok (.getfield 43, 3) := by decide +kernel
theorem dX10_acceptsSaid_5 : decode cX10_acceptsSaid 5 = .ok (.iconst 4, 1) := by decide +kernel
theorem dX10_acceptsSaid_6 : decode cX10_acceptsSaid 6 = .ok (.imul, 1) := by decide +kernel
theorem dX10_acceptsSaid_7 : decode cX10_acceptsSaid 7 = .ok (.iload_n 1, 1) := by decide +kernel
theorem dX10_acceptsSaid_8 : decode cX10_acceptsSaid 8 = .ok (.bipush 97, 2) := by decide +kernel
theorem dX10_acceptsSaid_10 : decode cX10_acceptsSaid 10 = .ok (.isub, 1) := by decide +kernel
theorem dX10_acceptsSaid_11 : decode cX10_acceptsSaid 11 = .ok (.iadd, 1) := by decide +kernel
theorem dX10_acceptsSaid_12 : decode cX10_acceptsSaid 12 = .ok (.putfield 43, 3) := by decide +kernel
theorem dX10_acceptsSaid_15 : decode cX10_acceptsSaid 15 = .ok (.aload_n 0, 1) := by decide +kernel
theorem dX10_acceptsSaid_16 : decode cX10_acceptsSaid 16 = .ok (.dup, 1) := by decide +kernel
theorem dX10_acceptsSaid_17 : decode cX10_acceptsSaid 17 = .ok (.getfield 37, 3) := by decide +kernel
theorem dX10_acceptsSaid_20 : decode cX10_acceptsSaid 20 = .ok (.iconst 1, 1) := by decide +kernel
theorem dX10_acceptsSaid_21 : decode cX10_acceptsSaid 21 = .ok (.iadd, 1) := by decide +kernel
theorem dX10_acceptsSaid_22 : decode cX10_acceptsSaid 22 = .ok (.putfield 37, 3) := by decide +kernel
theorem dX10_acceptsSaid_25 : decode cX10_acceptsSaid 25 = .ok (.aload_n 0, 1) := by decide +kernel
theorem dX10_acceptsSaid_26 : decode cX10_acceptsSaid 26 = .ok (.getfield 37, 3) := by decide +kernel
theorem dX10_acceptsSaid_29 : decode cX10_acceptsSaid 29 = .ok (.aload_n 0, 1) := by decide +kernel
theorem dX10_acceptsSaid_30 : decode cX10_acceptsSaid 30 = .ok (.getfield 34, 3) := by decide +kernel
theorem dX10_acceptsSaid_33 : decode cX10_acceptsSaid 33 = .ok (.if_icmp .ne 8, 3) := by decide +kernel
theorem dX10_acceptsSaid_36 : decode cX10_acceptsSaid 36 = .ok (.aload_n 0, 1) := by decide +kernel
theorem dX10_acceptsSaid_37 : decode cX10_acceptsSaid 37 = .ok (.iconst 3, 1) := by decide +kernel
theorem dX10_acceptsSaid_38 : decode cX10_acceptsSaid 38 = .ok (.putfield 46, 3) := by decide +kernel
theorem dX10_acceptsSaid_41 : decode cX10_acceptsSaid 41 = .ok (.iload_n 1, 1) := by decide +kernel
theorem dX10_acceptsSaid_42 : decode cX10_acceptsSaid 42 = .ok (.invokestatic 74, 3) := by decide +kernel
theorem dX10_acceptsSaid_45 : decode cX10_acceptsSaid 45 = .ok (.ireturn, 1) := by decide +kernel
theorem dX10_acceptsPart_0 : decode cX10_acceptsPart 0 = .ok (.iload_n 1, 1) := by decide +kernel
theorem dX10_acceptsPart_1 : decode cX10_acceptsPart 1 = .ok (.bipush 67, 2) := by decide +kernel
theorem dX10_acceptsPart_3 : decode cX10_acceptsPart 3 = .ok (.if_icmp .ne 22, 3) := by decide +kernel
theorem dX10_acceptsPart_6 : decode cX10_acceptsPart 6 = .ok (.aload_n 0, 1) := by decide +kernel
theorem dX10_acceptsPart_7 : decode cX10_acceptsPart 7 = .ok (.iconst 4, 1) := by decide +kernel
theorem dX10_acceptsPart_8 : decode cX10_acceptsPart 8 = .ok (.putfield 46, 3) := by decide +kernel
theorem dX10_acceptsPart_11 : decode cX10_acceptsPart 11 = .ok (.aload_n 0, 1) := by decide +kernel
theorem dX10_acceptsPart_12 : decode cX10_acceptsPart 12 = .ok (.getfield 28, 3) := by decide +kernel
theorem dX10_acceptsPart_15 : decode cX10_acceptsPart 15 = .ok (.iconst 3, 1) := by decide +kernel
theorem dX10_acceptsPart_16 : decode cX10_acceptsPart 16 = .ok (.if_icmp .ge 7, 3) := by decide +kernel
theorem dX10_acceptsPart_19 : decode cX10_acceptsPart 19 = .ok (.iconst 1, 1) := by decide +kernel
theorem dX10_acceptsPart_20 : decode cX10_acceptsPart 20 = .ok (.goto 4, 3) := by decide +kernel
theorem dX10_acceptsPart_23 : decode cX10_acceptsPart 23 = .ok (.iconst 0, 1) := by decide +kernel
theorem dX10_acceptsPart_24 : decode cX10_acceptsPart 24 = .ok (.ireturn, 1) := by decide +kernel
theorem dX10_acceptsPart_25 : decode cX10_acceptsPart 25 = .ok (.aload_n 0, 1) := by decide +kernel
theorem dX10_acceptsPart_26 : decode cX10_acceptsPart 26 = .ok (.iconst 5, 1) := by decide +kernel
theorem dX10_acceptsPart_27 : decode cX10_acceptsPart 27 = .ok (.putfield 46, 3) := by decide +kernel
theorem dX10_acceptsPart_30 : decode cX10_acceptsPart 30 = .ok (.iload_n 1, 1) := by decide +kernel
theorem dX10_acceptsPart_31 : decode cX10_acceptsPart 31 = .ok (.bipush 82, 2) := by decide +kernel
theorem dX10_acceptsPart_33 : decode cX10_acceptsPart 33 = .ok (.if_icmp .ne 15, 3) := by decide +kernel
theorem dX10_acceptsPart_36 : decode cX10_acceptsPart 36 = .ok (.aload_n 0, 1) := by decide +kernel
theorem dX10_acceptsPart_37 : decode cX10_acceptsPart 37 = .ok (.getfield 31, 3) := by decide +kernel
theorem dX10_acceptsPart_40 : decode cX10_acceptsPart 40 = .ok (.iconst 4, 1) := by decide +kernel
theorem dX10_acceptsPart_41 : decode cX10_acceptsPart 41 = .ok (.if_icmp .ge 7, 3) := by decide +kernel
theorem dX10_acceptsPart_44 : decode cX10_acceptsPart 44 = .ok (.iconst 1, 1) := by decide +kernel
theorem dX10_acceptsPart_45 : decode cX10_acceptsPart 45 = .ok (.goto 4, 3) := by decide +kernel
theorem dX10_acceptsPart_48 : decode cX10_acceptsPart 48 = .ok (.iconst 0, 1) := by decide +kernel
theorem dX10_acceptsPart_49 : decode cX10_acceptsPart 49 = .ok (.ireturn, 1) := by decide +kernel
theorem dX10_acceptsKind_0 : decode cX10_acceptsKind 0 = .ok (.iload_n 1, 1) := by decide +kernel
theorem dX10_acceptsKind_1 : decode cX10_acceptsKind 1 = .ok (.bipush 48, 2) := by decide +kernel
theorem dX10_acceptsKind_3 : decode cX10_acceptsKind 3 = .ok (.isub, 1) := by decide +kernel
theorem dX10_acceptsKind_4 : decode cX10_acceptsKind 4 = .ok (.istore_n 2, 1) := by decide +kernel
theorem dX10_acceptsKind_5 : decode cX10_acceptsKind 5 = .ok (.iload_n 2, 1) := by decide +kernel
theorem dX10_acceptsKind_6 : decode cX10_acceptsKind 6 = .ok (.ifCond .lt 27, 3) := by decide +kernel
theorem dX10_acceptsKind_9 : decode cX10_acceptsKind 9 = .ok (.iload_n 2, 1) := by decide +kernel
theorem dX10_acceptsKind_10 : decode cX10_acceptsKind 10 = .ok (.iconst 4, 1) := by decide +kernel
theorem dX10_acceptsKind_11 : decode cX10_acceptsKind 11 = .ok (.if_icmp .ge 22, 3) := by decide +kernel
theorem dX10_acceptsKind_14 : decode cX10_acceptsKind 14 = .ok (.aload_n 0, 1) := by decide +kernel
theorem dX10_acceptsKind_15 : decode cX10_acceptsKind 15 = .ok (.getfield 28, 3) := by decide +kernel
theorem dX10_acceptsKind_18 : decode cX10_acceptsKind 18 = .ok (.ifCond .lt 15, 3) := by decide +kernel
theorem dX10_acceptsKind_21 : decode cX10_acceptsKind 21 = .ok (.aload_n 0, 1) := by decide +kernel
theorem dX10_acceptsKind_22 : decode cX10_acceptsKind 22 = .ok (.getfield 28, 3) := by decide +kernel
theorem dX10_acceptsKind_25 : decode cX10_acceptsKind 25 = .ok (.aload_n 0, 1) := by decide +kernel
theorem dX10_acceptsKind_26 : decode cX10_acceptsKind 26 = .ok (.getfield 15, 3) := by decide +kernel
theorem dX10_acceptsKind_29 : decode cX10_acceptsKind 29 = .ok (.arraylength, 1) := by decide +kernel
theorem dX10_acceptsKind_30 : decode cX10_acceptsKind 30 = .ok (.if_icmp .lt 5, 3) := by decide +kernel
theorem dX10_acceptsKind_33 : decode cX10_acceptsKind 33 = .ok (.iconst 0, 1) := by decide +kernel
theorem dX10_acceptsKind_34 : decode cX10_acceptsKind 34 = .ok (.ireturn, 1) := by decide +kernel
theorem dX10_acceptsKind_35 : decode cX10_acceptsKind 35 = .ok (.aload_n 0, 1) := by decide +kernel
theorem dX10_acceptsKind_36 : decode cX10_acceptsKind 36 = .ok (.getfield 15, 3) := by decide +kernel
theorem dX10_acceptsKind_39 : decode cX10_acceptsKind 39 = .ok (.aload_n 0, 1) := by decide +kernel
theorem dX10_acceptsKind_40 : decode cX10_acceptsKind 40 = .ok (.getfield 28, 3) := by decide +kernel
theorem dX10_acceptsKind_43 : decode cX10_acceptsKind 43 = .ok (.iload_n 2, 1) := by decide +kernel
theorem dX10_acceptsKind_44 : decode cX10_acceptsKind 44 = .ok (.iastore, 1) := by decide +kernel
theorem dX10_acceptsKind_45 : decode cX10_acceptsKind 45 = .ok (.aload_n 0, 1) := by decide +kernel
theorem dX10_acceptsKind_46 : decode cX10_acceptsKind 46 = .ok (.dup, 1) := by decide +kernel
theorem dX10_acceptsKind_47 : decode cX10_acceptsKind 47 = .ok (.getfield 28, 3) := by decide +kernel
theorem dX10_acceptsKind_50 : decode cX10_acceptsKind 50 = .ok (.iconst 1, 1) := by decide +kernel
theorem dX10_acceptsKind_51 : decode cX10_acceptsKind 51 = .ok (.iadd, 1) := by decide +kernel
theorem dX10_acceptsKind_52 : decode cX10_acceptsKind 52 = .ok (.putfield 28, 3) := by decide +kernel
theorem dX10_acceptsKind_55 : decode cX10_acceptsKind 55 = .ok (.aload_n 0, 1) := by decide +kernel
theorem dX10_acceptsKind_56 : decode cX10_acceptsKind 56 = .ok (.iconst 3, 1) := by decide +kernel
theorem dX10_acceptsKind_57 : decode cX10_acceptsKind 57 = .ok (.putfield 46, 3) := by decide +kernel
theorem dX10_acceptsKind_60 : decode cX10_acceptsKind 60 = .ok (.iconst 1, 1) := by decide +kernel
theorem dX10_acceptsKind_61 : decode cX10_acceptsKind 61 = .ok (.ireturn, 1) := by decide +kernel
theorem dX10_acceptsPeriod_0 : decode cX10_acceptsPeriod 0 = .ok (.iload_n 1, 1) := by decide +kernel
theorem dX10_acceptsPeriod_1 : decode cX10_acceptsPeriod 1 = .ok (.bipush 48, 2) := by decide +kernel
theorem dX10_acceptsPeriod_3 : decode cX10_acceptsPeriod 3 = .ok (.isub, 1) := by decide +kernel
theorem dX10_acceptsPeriod_4 : decode cX10_acceptsPeriod 4 = .ok (.istore_n 2, 1) := by decide +kernel
theorem dX10_acceptsPeriod_5 : decode cX10_acceptsPeriod 5 = .ok (.iload_n 2, 1) := by decide +kernel
theorem dX10_acceptsPeriod_6 : decode cX10_acceptsPeriod 6 = .ok (.iconst 1, 1) := by decide +kernel
theorem dX10_acceptsPeriod_7 : decode cX10_acceptsPeriod 7 = .ok (.if_icmp .lt 27, 3) := by decide +kernel
theorem dX10_acceptsPeriod_10 : decode cX10_acceptsPeriod 10 = .ok (.iload_n 2, 1) := by decide +kernel
theorem dX10_acceptsPeriod_11 : decode cX10_acceptsPeriod 11 = .ok (.iconst 4, 1) := by decide +kernel
theorem dX10_acceptsPeriod_12 : decode cX10_acceptsPeriod 12 = .ok (.if_icmp .gt 22, 3) := by decide +kernel
theorem dX10_acceptsPeriod_15 : decode cX10_acceptsPeriod 15 = .ok (.aload_n 0, 1) := by decide +kernel
theorem dX10_acceptsPeriod_16 : decode cX10_acceptsPeriod 16 = .ok (.getfield 31, 3) := by decide +kernel
theorem dX10_acceptsPeriod_19 : decode cX10_acceptsPeriod 19 = .ok (.ifCond .lt 15, 3) := by decide +kernel
theorem dX10_acceptsPeriod_22 : decode cX10_acceptsPeriod 22 = .ok (.aload_n 0, 1) := by decide +kernel
theorem dX10_acceptsPeriod_23 : decode cX10_acceptsPeriod 23 = .ok (.getfield 31, 3) := by decide +kernel
theorem dX10_acceptsPeriod_26 : decode cX10_acceptsPeriod 26 = .ok (.aload_n 0, 1) := by decide +kernel
theorem dX10_acceptsPeriod_27 : decode cX10_acceptsPeriod 27 = .ok (.getfield 18, 3) := by decide +kernel
theorem dX10_acceptsPeriod_30 : decode cX10_acceptsPeriod 30 = .ok (.arraylength, 1) := by decide +kernel
theorem dX10_acceptsPeriod_31 : decode cX10_acceptsPeriod 31 = .ok (.if_icmp .lt 5, 3) := by decide +kernel
theorem dX10_acceptsPeriod_34 : decode cX10_acceptsPeriod 34 = .ok (.iconst 0, 1) := by decide +kernel
theorem dX10_acceptsPeriod_35 : decode cX10_acceptsPeriod 35 = .ok (.ireturn, 1) := by decide +kernel
theorem dX10_acceptsPeriod_36 : decode cX10_acceptsPeriod 36 = .ok (.aload_n 0, 1) := by decide +kernel
theorem dX10_acceptsPeriod_37 : decode cX10_acceptsPeriod 37 = .ok (.getfield 18, 3) := by decide +kernel
theorem dX10_acceptsPeriod_40 : decode cX10_acceptsPeriod 40 = .ok (.aload_n 0, 1) := by decide +kernel
theorem dX10_acceptsPeriod_41 : decode cX10_acceptsPeriod 41 = .ok (.getfield 31, 3) := by decide +kernel
theorem dX10_acceptsPeriod_44 : decode cX10_acceptsPeriod 44 = .ok (.iload_n 2, 1) := by decide +kernel
theorem dX10_acceptsPeriod_45 : decode cX10_acceptsPeriod 45 = .ok (.iastore, 1) := by decide +kernel
theorem dX10_acceptsPeriod_46 : decode cX10_acceptsPeriod 46 = .ok (.aload_n 0, 1) := by decide +kernel
theorem dX10_acceptsPeriod_47 : decode cX10_acceptsPeriod 47 = .ok (.bipush 6, 2) := by decide +kernel
theorem dX10_acceptsPeriod_49 : decode cX10_acceptsPeriod 49 = .ok (.putfield 46, 3) := by decide +kernel
theorem dX10_acceptsPeriod_52 : decode cX10_acceptsPeriod 52 = .ok (.iconst 1, 1) := by decide +kernel
theorem dX10_acceptsPeriod_53 : decode cX10_acceptsPeriod 53 = .ok (.ireturn, 1) := by decide +kernel
theorem dX10_acceptsLeft_0 : decode cX10_acceptsLeft 0 = .ok (.iload_n 1, 1) := by decide +kernel
theorem dX10_acceptsLeft_1 : decode cX10_acceptsLeft 1 = .ok (.bipush 48, 2) := by decide +kernel
theorem dX10_acceptsLeft_3 : decode cX10_acceptsLeft 3 = .ok (.isub, 1) := by decide +kernel
theorem dX10_acceptsLeft_4 : decode cX10_acceptsLeft 4 = .ok (.istore_n 2, 1) := by decide +kernel
theorem dX10_acceptsLeft_5 : decode cX10_acceptsLeft 5 = .ok (.aload_n 0, 1) := by decide +kernel
theorem dX10_acceptsLeft_6 : decode cX10_acceptsLeft 6 = .ok (.getfield 31, 3) := by decide +kernel
theorem dX10_acceptsLeft_9 : decode cX10_acceptsLeft 9 = .ok (.ifCond .lt 27, 3) := by decide +kernel
theorem dX10_acceptsLeft_12 : decode cX10_acceptsLeft 12 = .ok (.aload_n 0, 1) := by decide +kernel
theorem dX10_acceptsLeft_13 : decode cX10_acceptsLeft 13 = .ok (.getfield 31, 3) := by decide +kernel
theorem dX10_acceptsLeft_16 : decode cX10_acceptsLeft 16 = .ok (.aload_n 0, 1) := by decide +kernel
theorem dX10_acceptsLeft_17 : decode cX10_acceptsLeft 17 = .ok (.getfield 18, 3) := by decide +kernel
theorem dX10_acceptsLeft_20 : decode cX10_acceptsLeft 20 = .ok (.arraylength, 1) := by decide +kernel
theorem dX10_acceptsLeft_21 : decode cX10_acceptsLeft 21 = .ok (.if_icmp .ge 15, 3) := by decide +kernel
theorem dX10_acceptsLeft_24 : decode cX10_acceptsLeft 24 = .ok (.aload_n 0, 1) := by decide +kernel
theorem dX10_acceptsLeft_25 : decode cX10_acceptsLeft 25 = .ok (.getfield 31, 3) := by decide +kernel
theorem dX10_acceptsLeft_28 : decode cX10_acceptsLeft 28 = .ok (.aload_n 0, 1) := by decide +kernel
theorem dX10_acceptsLeft_29 : decode cX10_acceptsLeft 29 = .ok (.getfield 21, 3) := by decide +kernel
theorem dX10_acceptsLeft_32 : decode cX10_acceptsLeft 32 = .ok (.arraylength, 1) := by decide +kernel
theorem dX10_acceptsLeft_33 : decode cX10_acceptsLeft 33 = .ok (.if_icmp .lt 5, 3) := by decide +kernel
theorem dX10_acceptsLeft_36 : decode cX10_acceptsLeft 36 = .ok (.iconst 0, 1) := by decide +kernel
theorem dX10_acceptsLeft_37 : decode cX10_acceptsLeft 37 = .ok (.ireturn, 1) := by decide +kernel
theorem dX10_acceptsLeft_38 : decode cX10_acceptsLeft 38 = .ok (.iload_n 2, 1) := by decide +kernel
theorem dX10_acceptsLeft_39 : decode cX10_acceptsLeft 39 = .ok (.ifCond .lt 16, 3) := by decide +kernel
theorem dX10_acceptsLeft_42 : decode cX10_acceptsLeft 42 = .ok (.iload_n 2, 1) := by decide +kernel
theorem dX10_acceptsLeft_43 : decode cX10_acceptsLeft 43 = .ok (.aload_n 0, 1) := by decide +kernel
theorem dX10_acceptsLeft_44 : decode cX10_acceptsLeft 44 = .ok (.getfield 18, 3) := by decide +kernel
theorem dX10_acceptsLeft_47 : decode cX10_acceptsLeft 47 = .ok (.aload_n 0, 1) := by decide +kernel
theorem dX10_acceptsLeft_48 : decode cX10_acceptsLeft 48 = .ok (.getfield 31, 3) := by decide +kernel
theorem dX10_acceptsLeft_51 : decode cX10_acceptsLeft 51 = .ok (.iaload, 1) := by decide +kernel
theorem dX10_acceptsLeft_52 : decode cX10_acceptsLeft 52 = .ok (.if_icmp .lt 5, 3) := by decide +kernel
theorem dX10_acceptsLeft_55 : decode cX10_acceptsLeft 55 = .ok (.iconst 0, 1) := by decide +kernel
theorem dX10_acceptsLeft_56 : decode cX10_acceptsLeft 56 = .ok (.ireturn, 1) := by decide +kernel
theorem dX10_acceptsLeft_57 : decode cX10_acceptsLeft 57 = .ok (.aload_n 0, 1) := by decide +kernel
theorem dX10_acceptsLeft_58 : decode cX10_acceptsLeft 58 = .ok (.getfield 21, 3) := by decide +kernel
theorem dX10_acceptsLeft_61 : decode cX10_acceptsLeft 61 = .ok (.aload_n 0, 1) := by decide +kernel
theorem dX10_acceptsLeft_62 : decode cX10_acceptsLeft 62 = .ok (.getfield 31, 3) := by decide +kernel
theorem dX10_acceptsLeft_65 : decode cX10_acceptsLeft 65 = .ok (.iload_n 2, 1) := by decide +kernel
theorem dX10_acceptsLeft_66 : decode cX10_acceptsLeft 66 = .ok (.iastore, 1) := by decide +kernel
theorem dX10_acceptsLeft_67 : decode cX10_acceptsLeft 67 = .ok (.aload_n 0, 1) := by decide +kernel
theorem dX10_acceptsLeft_68 : decode cX10_acceptsLeft 68 = .ok (.dup, 1) := by decide +kernel
theorem dX10_acceptsLeft_69 : decode cX10_acceptsLeft 69 = .ok (.getfield 31, 3) := by decide +kernel
theorem dX10_acceptsLeft_72 : decode cX10_acceptsLeft 72 = .ok (.iconst 1, 1) := by decide +kernel
theorem dX10_acceptsLeft_73 : decode cX10_acceptsLeft 73 = .ok (.iadd, 1) := by decide +kernel
theorem dX10_acceptsLeft_74 : decode cX10_acceptsLeft 74 = .ok (.putfield 31, 3) := by decide +kernel
theorem dX10_acceptsLeft_77 : decode cX10_acceptsLeft 77 = .ok (.aload_n 0, 1) := by decide +kernel
theorem dX10_acceptsLeft_78 : decode cX10_acceptsLeft 78 = .ok (.iconst 3, 1) := by decide +kernel
theorem dX10_acceptsLeft_79 : decode cX10_acceptsLeft 79 = .ok (.putfield 46, 3) := by decide +kernel
theorem dX10_acceptsLeft_82 : decode cX10_acceptsLeft 82 = .ok (.iconst 1, 1) := by decide +kernel
theorem dX10_acceptsLeft_83 : decode cX10_acceptsLeft 83 = .ok (.ireturn, 1) := by decide +kernel
theorem dX10_isLetter_0 : decode cX10_isLetter 0 = .ok (.iload_n 0, 1) := by decide +kernel
theorem dX10_isLetter_1 : decode cX10_isLetter 1 = .ok (.bipush 97, 2) := by decide +kernel
theorem dX10_isLetter_3 : decode cX10_isLetter 3 = .ok (.if_icmp .lt 13, 3) := by decide +kernel
theorem dX10_isLetter_6 : decode cX10_isLetter 6 = .ok (.iload_n 0, 1) := by decide +kernel
theorem dX10_isLetter_7 : decode cX10_isLetter 7 = .ok (.bipush 100, 2) := by decide +kernel
theorem dX10_isLetter_9 : decode cX10_isLetter 9 = .ok (.if_icmp .gt 7, 3) := by decide +kernel
theorem dX10_isLetter_12 : decode cX10_isLetter 12 = .ok (.iconst 1, 1) := by decide +kernel
theorem dX10_isLetter_13 : decode cX10_isLetter 13 = .ok (.goto 4, 3) := by decide +kernel
theorem dX10_isLetter_16 : decode cX10_isLetter 16 = .ok (.iconst 0, 1) := by decide +kernel
theorem dX10_isLetter_17 : decode cX10_isLetter 17 = .ok (.ireturn, 1) := by decide +kernel
theorem dX11_init_0 : decode cX11_init 0 = .ok (.aload_n 0, 1) := by decide +kernel
theorem dX11_init_1 : decode cX11_init 1 = .ok (.invokespecial 3, 3) := by decide +kernel
theorem dX11_init_4 : decode cX11_init 4 = .ok (.aload_n 0, 1) := by decide +kernel
theorem dX11_init_5 : decode cX11_init 5 = .ok (.new 9, 3) := by decide +kernel
theorem dX11_init_8 : decode cX11_init 8 = .ok (.dup, 1) := by decide +kernel
theorem dX11_init_9 : decode cX11_init 9 = .ok (.invokespecial 11, 3) := by decide +kernel
theorem dX11_init_12 : decode cX11_init 12 = .ok (.putfield 12, 3) := by decide +kernel
theorem dX11_init_15 : decode cX11_init 15 = .ok (.aload_n 0, 1) := by decide +kernel
theorem dX11_init_16 : decode cX11_init 16 = .ok (.new 16, 3) := by decide +kernel
theorem dX11_init_19 : decode cX11_init 19 = .ok (.dup, 1) := by decide +kernel
theorem dX11_init_20 : decode cX11_init 20 = .ok (.invokespecial 18, 3) := by decide +kernel
theorem dX11_init_23 : decode cX11_init 23 = .ok (.putfield 19, 3) := by decide +kernel
theorem dX11_init_26 : decode cX11_init 26 = .ok (.aload_n 0, 1) := by decide +kernel
theorem dX11_init_27 : decode cX11_init 27 = .ok (.new 23, 3) := by decide +kernel
theorem dX11_init_30 : decode cX11_init 30 = .ok (.dup, 1) := by decide +kernel
theorem dX11_init_31 : decode cX11_init 31 = .ok (.invokespecial 25, 3) := by decide +kernel
theorem dX11_init_34 : decode cX11_init 34 = .ok (.putfield 26, 3) := by decide +kernel
theorem dX11_init_37 : decode cX11_init 37 = .ok (.aload_n 0, 1) := by decide +kernel
theorem dX11_init_38 : decode cX11_init 38 = .ok (.new 30, 3) := by decide +kernel
theorem dX11_init_41 : decode cX11_init 41 = .ok (.dup, 1) := by decide +kernel
theorem dX11_init_42 : decode cX11_init 42 = .ok (.iconst 2, 1) := by decide +kernel
theorem dX11_init_43 : decode cX11_init 43 = .ok (.invokespecial 32, 3) := by decide +kernel
theorem dX11_init_46 : decode cX11_init 46 = .ok (.putfield 35, 3) := by decide +kernel
theorem dX11_init_49 : decode cX11_init 49 = .ok (.aload_n 0, 1) := by decide +kernel
theorem dX11_init_50 : decode cX11_init 50 = .ok (.new 39, 3) := by decide +kernel
theorem dX11_init_53 : decode cX11_init 53 = .ok (.dup, 1) := by decide +kernel
theorem dX11_init_54 : decode cX11_init 54 = .ok (.invokespecial 41, 3) := by decide +kernel
theorem dX11_init_57 : decode cX11_init 57 = .ok (.putfield 42, 3) := by decide +kernel
theorem dX11_init_60 : decode cX11_init 60 = .ok (.aload_n 0, 1) := by decide +kernel
theorem dX11_init_61 : decode cX11_init 61 = .ok (.new 46, 3) := by decide +kernel
theorem dX11_init_64 : decode cX11_init 64 = .ok (.dup, 1) := by decide +kernel
theorem dX11_init_65 : decode cX11_init 65 = .ok (.invokespecial 48, 3) := by decide +kernel
theorem dX11_init_68 : decode cX11_init 68 = .ok (.putfield 49, 3) := by decide +kernel
theorem dX11_init_71 : decode cX11_init 71 = .ok (.aload_n 0, 1) := by decide +kernel
theorem dX11_init_72 : decode cX11_init 72 = .ok (.new 53, 3) := by decide +kernel
theorem dX11_init_75 : decode cX11_init 75 = .ok (.dup, 1) := by decide +kernel
theorem dX11_init_76 : decode cX11_init 76 = .ok (.invokespecial 55, 3) := by decide +kernel
theorem dX11_init_79 : decode cX11_init 79 = .ok (.putfield 56, 3) := by decide +kernel
theorem dX11_init_82 : decode cX11_init 82 = .ok (.aload_n 0, 1) := by decide +kernel
theorem dX11_init_83 : decode cX11_init 83 = .ok (.new 60, 3) := by decide +kernel
theorem dX11_init_86 : decode cX11_init 86 = .ok (.dup, 1) := by decide +kernel
theorem dX11_init_87 : decode cX11_init 87 = .ok (.invokespecial 62, 3) := by decide +kernel
theorem dX11_init_90 : decode cX11_init 90 = .ok (.putfield 63, 3) := by decide +kernel
theorem dX11_init_93 : decode cX11_init 93 = .ok (.aload_n 0, 1) := by decide +kernel
theorem dX11_init_94 : decode cX11_init 94 = .ok (.new 67, 3) := by decide +kernel
theorem dX11_init_97 : decode cX11_init 97 = .ok (.dup, 1) := by decide +kernel
theorem dX11_init_98 : decode cX11_init 98 = .ok (.invokespecial 69, 3) := by decide +kernel
theorem dX11_init_101 : decode cX11_init 101 = .ok (.putfield 70, 3) := by decide +kernel
theorem dX11_init_104 : decode cX11_init 104 = .ok (.aload_n 0, 1) := by decide +kernel
theorem dX11_init_105 : decode cX11_init 105 = .ok (.iconst 0, 1) := by decide +kernel
theorem dX11_init_106 : decode cX11_init 106 = .ok (.putfield 74, 3) := by decide +kernel
theorem dX11_init_109 : decode cX11_init 109 = .ok (.aload_n 0, 1) := by decide +kernel
theorem dX11_init_110 : decode cX11_init 110 = .ok (.lconst 0, 1) := by decide +kernel
theorem dX11_init_111 : decode cX11_init 111 = .ok (.putfield 78, 3) := by decide +kernel
theorem dX11_init_114 : decode cX11_init 114 = .ok (.return_, 1) := by decide +kernel
theorem dX11_write_0 : decode cX11_write 0 = .ok (.iload_n 1, 1) := by decide +kernel
theorem dX11_write_1 : decode cX11_write 1 = .ok (.ifCond .lt 10, 3) := by decide +kernel
theorem dX11_write_4 : decode cX11_write 4 = .ok (.iload_n 1, 1) := by decide +kernel
theorem dX11_write_5 : decode cX11_write 5 = .ok (.sipush 255, 3) := by decide +kernel
theorem dX11_write_8 : decode cX11_write 8 = .ok (.if_icmp .le 6, 3) := by decide +kernel
theorem dX11_write_11 : decode cX11_write 11 = .ok (.bipush (-2), 2) := by decide +kernel
theorem dX11_write_13 : decode cX11_write 13 = .ok (.ireturn, 1) := by decide +kernel
theorem dX11_write_14 : decode cX11_write 14 = .ok (.aload_n 0, 1) := by decide +kernel
theorem dX11_write_15 : decode cX11_write 15 = .ok (.getfield 12, 3) := by decide +kernel
theorem dX11_write_18 : decode cX11_write 18 = .ok (.iload_n 1, 1) := by decide +kernel
theorem dX11_write_19 : decode cX11_write 19 = .ok (.invokevirtual 82, 3) := by decide +kernel
theorem dX11_write_22 : decode cX11_write 22 = .ok (.ifCond .eq 13, 3) := by decide +kernel
theorem dX11_write_25 : decode cX11_write 25 = .ok (.aload_n 0, 1) := by decide +kernel
theorem dX11_write_26 : decode cX11_write 26 = .ok (.getfield 12, 3) := by decide +kernel
theorem dX11_write_29 : decode cX11_write 29 = .ok (.getfield 86, 3) := by decide +kernel
theorem dX11_write_32 : decode cX11_write 32 = .ok (.goto 5, 3) := by decide +kernel
theorem dX11_write_35 : decode cX11_write 35 = .ok (.bipush (-4), 2) := by decide +kernel
theorem dX11_write_37 : decode cX11_write 37 = .ok (.ireturn, 1) := by decide +kernel
theorem dX11_wipe_0 : decode cX11_wipe 0 = .ok (.aload_n 0, 1) := by decide +kernel
theorem dX11_wipe_1 : decode cX11_wipe 1 = .ok (.getfield 12, 3) := by decide +kernel
theorem dX11_wipe_4 : decode cX11_wipe 4 = .ok (.getfield 86, 3) := by decide +kernel
theorem dX11_wipe_7 : decode cX11_wipe 7 = .ok (.istore_n 1, 1) := by decide +kernel
theorem dX11_wipe_8 : decode cX11_wipe 8 = .ok (.aload_n 0, 1) := by decide +kernel
theorem dX11_wipe_9 : decode cX11_wipe 9 = .ok (.getfield 12, 3) := by decide +kernel
theorem dX11_wipe_12 : decode cX11_wipe 12 = .ok (.iconst 0, 1) := by decide +kernel
theorem dX11_wipe_13 : decode cX11_wipe 13 = .ok (.putfield 86, 3) := by decide +kernel
theorem dX11_wipe_16 : decode cX11_wipe 16 = .ok (.iload_n 1, 1) := by decide +kernel
theorem dX11_wipe_17 : decode cX11_wipe 17 = .ok (.ireturn, 1) := by decide +kernel
theorem dX11_fault_0 : decode cX11_fault 0 = .ok (.aload_n 0, 1) := by decide +kernel
theorem dX11_fault_1 : decode cX11_fault 1 = .ok (.getfield 12, 3) := by decide +kernel
theorem dX11_fault_4 : decode cX11_fault 4 = .ok (.invokevirtual 89, 3) := by decide +kernel
theorem dX11_fault_7 : decode cX11_fault 7 = .ok (.ireturn, 1) := by decide +kernel
theorem dX11_paper_0 : decode cX11_paper 0 = .ok (.aload_n 0, 1) := by decide +kernel
theorem dX11_paper_1 : decode cX11_paper 1 = .ok (.getfield 12, 3) := by decide +kernel
theorem dX11_paper_4 : decode cX11_paper 4 = .ok (.invokevirtual 89, 3) := by decide +kernel
theorem dX11_paper_7 : decode cX11_paper 7 = .ok (.bipush (-9), 2) := by decide +kernel
theorem dX11_paper_9 : decode cX11_paper 9 = .ok (.if_icmp .eq 6, 3) := by decide +kernel
theorem dX11_paper_12 : decode cX11_paper 12 = .ok (.bipush (-3), 2) := by decide +kernel
theorem dX11_paper_14 : decode cX11_paper 14 = .ok (.ireturn, 1) := by decide +kernel
theorem dX11_paper_15 : decode cX11_paper 15 = .ok (.aload_n 0, 1) := by decide +kernel
theorem dX11_paper_16 : decode cX11_paper 16 = .ok (.getfield 19, 3) := by decide +kernel
theorem dX11_paper_19 : decode cX11_paper 19 = .ok (.aload_n 0, 1) := by decide +kernel
theorem dX11_paper_20 : decode cX11_paper 20 = .ok (.getfield 12, 3) := by decide +kernel
theorem dX11_paper_23 : decode cX11_paper 23 = .ok (.invokevirtual 93, 3) := by decide +kernel
theorem dX11_paper_26 : decode cX11_paper 26 = .ok (.aload_n 0, 1) := by decide +kernel
theorem dX11_paper_27 : decode cX11_paper 27 = .ok (.getfield 26, 3) := by decide +kernel
theorem dX11_paper_30 : decode cX11_paper 30 = .ok (.invokevirtual 97, 3) := by decide +kernel
theorem dX11_paper_33 : decode cX11_paper 33 = .ok (.aload_n 0, 1) := by decide +kernel
theorem dX11_paper_34 : decode cX11_paper 34 = .ok (.iconst 0, 1) := by decide +kernel
theorem dX11_paper_35 : decode cX11_paper 35 = .ok (.putfield 74, 3) := by decide +kernel
theorem dX11_paper_38 : decode cX11_paper 38 = .ok (.bipush 10, 2) := by decide +kernel
theorem dX11_paper_40 : decode cX11_paper 40 = .ok (.aload_n 0, 1) := by decide +kernel
theorem dX11_paper_41 : decode cX11_paper 41 = .ok (.getfield 19, 3) := by decide +kernel
theorem dX11_paper_44 : decode cX11_paper 44 = .ok (.getfield 100, 3) := by decide +kernel
theorem dX11_paper_47 : decode cX11_paper 47 = .ok (.imul, 1) := by decide +kernel
theorem dX11_paper_48 : decode cX11_paper 48 = .ok (.aload_n 0, 1) := by decide +kernel
theorem dX11_paper_49 : decode cX11_paper 49 = .ok (.getfield 19, 3) := by decide +kernel
theorem dX11_paper_52 : decode cX11_paper 52 = .ok (.getfield 103, 3) := by decide +kernel
theorem dX11_paper_55 : decode cX11_paper 55 = .ok (.iadd, 1) := by decide +kernel
theorem dX11_paper_56 : decode cX11_paper 56 = .ok (.ireturn, 1) := by decide +kernel
theorem dX11_about_0 : decode cX11_about 0 = .ok (.aload_n 0, 1) := by decide +kernel
theorem dX11_about_1 : decode cX11_about 1 = .ok (.getfield 19, 3) := by decide +kernel
theorem dX11_about_4 : decode cX11_about 4 = .ok (.getfield 106, 3) := by decide +kernel
theorem dX11_about_7 : decode cX11_about 7 = .ok (.astore_n 2, 1) := by decide +kernel
theorem dX11_about_8 : decode cX11_about 8 = .ok (.iload_n 1, 1) := by decide +kernel
theorem dX11_about_9 : decode cX11_about 9 = .ok (.tableswitch 168 0 10 #[59, 67, 75, 86, 104, 119, 131, 136, 144, 152, 160], 59) := by decide +kernel
theorem dX11_about_68 : decode cX11_about 68 = .ok (.aload_n 0, 1) := by decide +kernel
theorem dX11_about_69 : decode cX11_about 69 = .ok (.getfield 19, 3) := by decide +kernel
theorem dX11_about_72 : decode cX11_about 72 = .ok (.getfield 100, 3) := by decide +kernel
theorem dX11_about_75 : decode cX11_about 75 = .ok (.ireturn, 1) := by decide +kernel
theorem dX11_about_76 : decode cX11_about 76 = .ok (.aload_n 0, 1) := by decide +kernel
theorem dX11_about_77 : decode cX11_about 77 = .ok (.getfield 19, 3) := by decide +kernel
theorem dX11_about_80 : decode cX11_about 80 = .ok (.getfield 103, 3) := by decide +kernel
theorem dX11_about_83 : decode cX11_about 83 = .ok (.ireturn, 1) := by decide +kernel
theorem dX11_about_84 : decode cX11_about 84 = .ok (.aload_n 0, 1) := by decide +kernel
theorem dX11_about_85 : decode cX11_about 85 = .ok (.getfield 19, 3) := by decide +kernel
theorem dX11_about_88 : decode cX11_about 88 = .ok (.getfield 110, 3) := by decide +kernel
theorem dX11_about_91 : decode cX11_about 91 = .ok (.getfield 114, 3) := by decide +kernel
theorem dX11_about_94 : decode cX11_about 94 = .ok (.ireturn, 1) := by decide +kernel
theorem dX11_about_95 : decode cX11_about 95 = .ok (.aload_n 0, 1) := by decide +kernel
theorem dX11_about_96 : decode cX11_about 96 = .ok (.getfield 19, 3) := by decide +kernel
theorem dX11_about_99 : decode cX11_about 99 = .ok (.getfield 110, 3) := by decide +kernel
theorem dX11_about_102 : decode cX11_about 102 = .ok (.aload_n 0, 1) := by decide +kernel
theorem dX11_about_103 : decode cX11_about 103 = .ok (.getfield 19, 3) := by decide +kernel
theorem dX11_about_106 : decode cX11_about 106 = .ok (.getfield 119, 3) := by decide +kernel
theorem dX11_about_109 : decode cX11_about 109 = .ok (.invokevirtual 122, 3) := by decide +kernel
theorem dX11_about_112 : decode cX11_about 112 = .ok (.ireturn, 1) := by decide +kernel
theorem dX11_about_113 : decode cX11_about 113 = .ok (.aload_n 0, 1) := by decide +kernel
theorem dX11_about_114 : decode cX11_about 114 = .ok (.getfield 19, 3) := by decide +kernel
theorem dX11_about_117 : decode cX11_about 117 = .ok (.getfield 110, 3) := by decide +kernel
theorem dX11_about_120 : decode cX11_about 120 = .ok (.aload_n 2, 1) := by decide +kernel
theorem dX11_about_121 : decode cX11_about 121 = .ok (.invokevirtual 126, 3) := by decide +kernel
theorem dX11_about_124 : decode cX11_about 124 = .ok (.invokevirtual 122, 3) := by decide +kernel
theorem dX11_about_127 : decode cX11_about 127 = .ok (.ireturn, 1) := by decide +kernel
theorem dX11_about_128 : decode cX11_about 128 = .ok (.aload_n 0, 1) := by decide +kernel
theorem dX11_about_129 : decode cX11_about 129 = .ok (.getfield 19, 3) := by decide +kernel
theorem dX11_about_132 : decode cX11_about 132 = .ok (.aload_n 2, 1) := by decide +kernel
theorem dX11_about_133 : decode cX11_about 133 = .ok (.invokevirtual 126, 3) := by decide +kernel
theorem dX11_about_136 : decode cX11_about 136 = .ok (.invokevirtual 131, 3) := by decide +kernel
theorem dX11_about_139 : decode cX11_about 139 = .ok (.ireturn, 1) := by decide +kernel
theorem dX11_about_140 : decode cX11_about 140 = .ok (.aload_n 2, 1) := by decide +kernel
theorem dX11_about_141 : decode cX11_about 141 = .ok (.invokevirtual 134, 3) := by decide +kernel
theorem dX11_about_144 : decode cX11_about 144 = .ok (.ireturn, 1) := by decide +kernel
theorem dX11_about_145 : decode cX11_about 145 = .ok (.aload_n 0, 1) := by decide +kernel
theorem dX11_about_146 : decode cX11_about 146 = .ok (.getfield 19, 3) := by decide +kernel
theorem dX11_about_149 : decode cX11_about 149 = .ok (.invokevirtual 137, 3) := by decide +kernel
theorem dX11_about_152 : decode cX11_about 152 = .ok (.ireturn, 1) := by decide +kernel
theorem dX11_about_153 : decode cX11_about 153 = .ok (.aload_n 0, 1) := by decide +kernel
theorem dX11_about_154 : decode cX11_about 154 = .ok (.getfield 19, 3) := by decide +kernel
theorem dX11_about_157 : decode cX11_about 157 = .ok (.invokevirtual 140, 3) := by decide +kernel
theorem dX11_about_160 : decode cX11_about 160 = .ok (.ireturn, 1) := by decide +kernel
theorem dX11_about_161 : decode cX11_about 161 = .ok (.aload_n 0, 1) := by decide +kernel
theorem dX11_about_162 : decode cX11_about 162 = .ok (.getfield 26, 3) := by decide +kernel
theorem dX11_about_165 : decode cX11_about 165 = .ok (.getfield 143, 3) := by decide +kernel
theorem dX11_about_168 : decode cX11_about 168 = .ok (.ireturn, 1) := by decide +kernel
theorem dX11_about_169 : decode cX11_about 169 = .ok (.aload_n 0, 1) := by decide +kernel
theorem dX11_about_170 : decode cX11_about 170 = .ok (.getfield 12, 3) := by decide +kernel
theorem dX11_about_173 : decode cX11_about 173 = .ok (.getfield 86, 3) := by decide +kernel
theorem dX11_about_176 : decode cX11_about 176 = .ok (.ireturn, 1) := by decide +kernel
theorem dX11_about_177 : decode cX11_about 177 = .ok (.bipush (-2), 2) := by decide +kernel
theorem dX11_about_179 : decode cX11_about 179 = .ok (.ireturn, 1) := by decide +kernel
theorem dX11_kind_0 : decode cX11_kind 0 = .ok (.aload_n 0, 1) := by decide +kernel
theorem dX11_kind_1 : decode cX11_kind 1 = .ok (.getfield 19, 3) := by decide +kernel
theorem dX11_kind_4 : decode cX11_kind 4 = .ok (.iload_n 1, 1) := by decide +kernel
theorem dX11_kind_5 : decode cX11_kind 5 = .ok (.invokevirtual 146, 3) := by decide +kernel
theorem dX11_kind_8 : decode cX11_kind 8 = .ok (.ifCond .eq 17, 3) := by decide +kernel
theorem dX11_kind_11 : decode cX11_kind 11 = .ok (.aload_n 0, 1) := by decide +kernel
theorem dX11_kind_12 : decode cX11_kind 12 = .ok (.getfield 19, 3) := by decide +kernel
theorem dX11_kind_15 : decode cX11_kind 15 = .ok (.getfield 106, 3) := by decide +kernel
theorem dX11_kind_18 : decode cX11_kind 18 = .ok (.iload_n 1, 1) := by decide +kernel
theorem dX11_kind_19 : decode cX11_kind 19 = .ok (.invokevirtual 149, 3) := by decide +kernel
theorem dX11_kind_22 : decode cX11_kind 22 = .ok (.goto 4, 3) := by decide +kernel
theorem dX11_kind_25 : decode cX11_kind 25 = .ok (.iconst (-1), 1) := by decide +kernel
theorem dX11_kind_26 : decode cX11_kind 26 = .ok (.ireturn, 1) := by decide +kernel
theorem dX11_reader_0 : decode cX11_reader 0 = .ok (.aload_n 0, 1) := by decide +kernel
theorem dX11_reader_1 : decode cX11_reader 1 = .ok (.getfield 19, 3) := by decide +kernel
theorem dX11_reader_4 : decode cX11_reader 4 = .ok (.iload_n 1, 1) := by decide +kernel
theorem dX11_reader_5 : decode cX11_reader 5 = .ok (.invokevirtual 152, 3) := by decide +kernel
theorem dX11_reader_8 : decode cX11_reader 8 = .ok (.ifCond .ne 5, 3) := by decide +kernel
theorem dX11_reader_11 : decode cX11_reader 11 = .ok (.iconst (-1), 1) := by decide +kernel
theorem dX11_reader_12 : decode cX11_reader 12 = .ok (.ireturn, 1) := by decide +kernel
theorem dX11_reader_13 : decode cX11_reader 13 = .ok (.iload_n 2, 1) := by decide +kernel
theorem dX11_reader_14 : decode cX11_reader 14 = .ok (.tableswitch 89 0 3 #[30, 39, 48, 70], 30) := by decide +kernel
theorem dX11_reader_44 : decode cX11_reader 44 = .ok (.aload_n 0, 1) := by decide +kernel
theorem dX11_reader_45 : decode cX11_reader 45 = .ok (.getfield 19, 3) := by decide +kernel
theorem dX11_reader_48 : decode cX11_reader 48 = .ok (.iload_n 1, 1) := by decide +kernel
theorem dX11_reader_49 : decode cX11_reader 49 = .ok (.invokevirtual 155, 3) := by decide +kernel
theorem dX11_reader_52 : decode cX11_reader 52 = .ok (.ireturn, 1) := by decide +kernel
theorem dX11_reader_53 : decode cX11_reader 53 = .ok (.aload_n 0, 1) := by decide +kernel
theorem dX11_reader_54 : decode cX11_reader 54 = .ok (.getfield 19, 3) := by decide +kernel
theorem dX11_reader_57 : decode cX11_reader 57 = .ok (.iload_n 1, 1) := by decide +kernel
theorem dX11_reader_58 : decode cX11_reader 58 = .ok (.invokevirtual 158, 3) := by decide +kernel
theorem dX11_reader_61 : decode cX11_reader 61 = .ok (.ireturn, 1) := by decide +kernel
theorem dX11_reader_62 : decode cX11_reader 62 = .ok (.aload_n 0, 1) := by decide +kernel
theorem dX11_reader_63 : decode cX11_reader 63 = .ok (.getfield 19, 3) := by decide +kernel
theorem dX11_reader_66 : decode cX11_reader 66 = .ok (.getfield 110, 3) := by decide +kernel
theorem dX11_reader_69 : decode cX11_reader 69 = .ok (.aload_n 0, 1) := by decide +kernel
theorem dX11_reader_70 : decode cX11_reader 70 = .ok (.getfield 19, 3) := by decide +kernel
theorem dX11_reader_73 : decode cX11_reader 73 = .ok (.getfield 106, 3) := by decide +kernel
theorem dX11_reader_76 : decode cX11_reader 76 = .ok (.iload_n 1, 1) := by decide +kernel
theorem dX11_reader_77 : decode cX11_reader 77 = .ok (.invokevirtual 161, 3) := by decide +kernel
theorem dX11_reader_80 : decode cX11_reader 80 = .ok (.invokevirtual 122, 3) := by decide +kernel
theorem dX11_reader_83 : decode cX11_reader 83 = .ok (.ireturn, 1) := by decide +kernel
theorem dX11_reader_84 : decode cX11_reader 84 = .ok (.aload_n 0, 1) := by decide +kernel
theorem dX11_reader_85 : decode cX11_reader 85 = .ok (.getfield 19, 3) := by decide +kernel
theorem dX11_reader_88 : decode cX11_reader 88 = .ok (.aload_n 0, 1) := by decide +kernel
theorem dX11_reader_89 : decode cX11_reader 89 = .ok (.getfield 19, 3) := by decide +kernel
theorem dX11_reader_92 : decode cX11_reader 92 = .ok (.getfield 106, 3) := by decide +kernel
theorem dX11_reader_95 : decode cX11_reader 95 = .ok (.iload_n 1, 1) := by decide +kernel
theorem dX11_reader_96 : decode cX11_reader 96 = .ok (.invokevirtual 161, 3) := by decide +kernel
theorem dX11_reader_99 : decode cX11_reader 99 = .ok (.invokevirtual 131, 3) := by decide +kernel
theorem dX11_reader_102 : decode cX11_reader 102 = .ok (.ireturn, 1) := by decide +kernel
theorem dX11_reader_103 : decode cX11_reader 103 = .ok (.bipush (-2), 2) := by decide +kernel
theorem dX11_reader_105 : decode cX11_reader 105 = .ok (.ireturn, 1) := by decide +kernel
theorem dX11_print_0 : decode cX11_print 0 = .ok (.aload_n 0, 1) := by decide +kernel
theorem dX11_print_1 : decode cX11_print 1 = .ok (.getfield 19, 3) := by decide +kernel
theorem dX11_print_4 : decode cX11_print 4 = .ok (.iload_n 1, 1) := by decide +kernel
theorem dX11_print_5 : decode cX11_print 5 = .ok (.invokevirtual 146, 3) := by decide +kernel
theorem dX11_print_8 : decode cX11_print 8 = .ok (.ifCond .ne 5, 3) := by decide +kernel
theorem dX11_print_11 : decode cX11_print 11 = .ok (.iconst (-1), 1) := by decide +kernel
theorem dX11_print_12 : decode cX11_print 12 = .ok (.ireturn, 1) := by decide +kernel
theorem dX11_print_13 : decode cX11_print 13 = .ok (.aload_n 0, 1) := by decide +kernel
theorem dX11_print_14 : decode cX11_print 14 = .ok (.getfield 19, 3) := by decide +kernel
theorem dX11_print_17 : decode cX11_print 17 = .ok (.iload_n 2, 1) := by decide +kernel
theorem dX11_print_18 : decode cX11_print 18 = .ok (.iload_n 3, 1) := by decide +kernel
theorem dX11_print_19 : decode cX11_print 19 = .ok (.invokevirtual 164, 3) := by decide +kernel
theorem dX11_print_22 : decode cX11_print 22 = .ok (.ifCond .ne 6, 3) := by decide +kernel
theorem dX11_print_25 : decode cX11_print 25 = .ok (.bipush (-2), 2) := by decide +kernel
theorem dX11_print_27 : decode cX11_print 27 = .ok (.ireturn, 1) := by decide +kernel
theorem dX11_print_28 : decode cX11_print 28 = .ok (.aload_n 0, 1) := by decide +kernel
theorem dX11_print_29 : decode cX11_print 29 = .ok (.getfield 26, 3) := by decide +kernel
theorem dX11_print_32 : decode cX11_print 32 = .ok (.aload_n 0, 1) := by decide +kernel
theorem dX11_print_33 : decode cX11_print 33 = .ok (.getfield 19, 3) := by decide +kernel
theorem dX11_print_36 : decode cX11_print 36 = .ok (.getfield 106, 3) := by decide +kernel
theorem dX11_print_39 : decode cX11_print 39 = .ok (.invokevirtual 168, 3) := by decide +kernel
theorem dX11_print_42 : decode cX11_print 42 = .ok (.aload_n 0, 1) := by decide +kernel
theorem dX11_print_43 : decode cX11_print 43 = .ok (.getfield 19, 3) := by decide +kernel
theorem dX11_print_46 : decode cX11_print 46 = .ok (.iload_n 1, 1) := by decide +kernel
theorem dX11_print_47 : decode cX11_print 47 = .ok (.iload_n 2, 1) := by decide +kernel
theorem dX11_print_48 : decode cX11_print 48 = .ok (.iload_n 3, 1) := by decide +kernel
theorem dX11_print_49 : decode cX11_print 49 = .ok (.invokevirtual 172, 3) := by decide +kernel
theorem dX11_print_52 : decode cX11_print 52 = .ok (.aload_n 0, 1) := by decide +kernel
theorem dX11_print_53 : decode cX11_print 53 = .ok (.getfield 19, 3) := by decide +kernel
theorem dX11_print_56 : decode cX11_print 56 = .ok (.getfield 110, 3) := by decide +kernel
theorem dX11_print_59 : decode cX11_print 59 = .ok (.aload_n 0, 1) := by decide +kernel
theorem dX11_print_60 : decode cX11_print 60 = .ok (.getfield 19, 3) := by decide +kernel
theorem dX11_print_63 : decode cX11_print 63 = .ok (.getfield 106, 3) := by decide +kernel
theorem dX11_print_66 : decode cX11_print 66 = .ok (.invokevirtual 126, 3) := by decide +kernel
theorem dX11_print_69 : decode cX11_print 69 = .ok (.invokevirtual 122, 3) := by decide +kernel
theorem dX11_print_72 : decode cX11_print 72 = .ok (.ireturn, 1) := by decide +kernel
theorem dX11_quiet_0 : decode cX11_quiet 0 = .ok (.aload_n 0, 1) := by decide +kernel
theorem dX11_quiet_1 : decode cX11_quiet 1 = .ok (.getfield 26, 3) := by decide +kernel
theorem dX11_quiet_4 : decode cX11_quiet 4 = .ok (.aload_n 0, 1) := by decide +kernel
theorem dX11_quiet_5 : decode cX11_quiet 5 = .ok (.getfield 19, 3) := by decide +kernel
theorem dX11_quiet_8 : decode cX11_quiet 8 = .ok (.getfield 106, 3) := by decide +kernel
theorem dX11_quiet_11 : decode cX11_quiet 11 = .ok (.invokevirtual 168, 3) := by decide +kernel
theorem dX11_quiet_14 : decode cX11_quiet 14 = .ok (.aload_n 0, 1) := by decide +kernel
theorem dX11_quiet_15 : decode cX11_quiet 15 = .ok (.getfield 19, 3) := by decide +kernel
theorem dX11_quiet_18 : decode cX11_quiet 18 = .ok (.getfield 106, 3) := by decide +kernel
theorem dX11_quiet_21 : decode cX11_quiet 21 = .ok (.invokevirtual 176, 3) := by decide +kernel
theorem dX11_quiet_24 : decode cX11_quiet 24 = .ok (.aload_n 0, 1) := by decide +kernel
theorem dX11_quiet_25 : decode cX11_quiet 25 = .ok (.getfield 19, 3) := by decide +kernel
theorem dX11_quiet_28 : decode cX11_quiet 28 = .ok (.getfield 106, 3) := by decide +kernel
theorem dX11_quiet_31 : decode cX11_quiet 31 = .ok (.invokevirtual 134, 3) := by decide +kernel
theorem dX11_quiet_34 : decode cX11_quiet 34 = .ok (.ireturn, 1) := by decide +kernel
theorem dX11_tell_0 : decode cX11_tell 0 = .ok (.aload_n 0, 1) := by decide +kernel
theorem dX11_tell_1 : decode cX11_tell 1 = .ok (.getfield 19, 3) := by decide +kernel
theorem dX11_tell_4 : decode cX11_tell 4 = .ok (.iload_n 1, 1) := by decide +kernel
theorem dX11_tell_5 : decode cX11_tell 5 = .ok (.invokevirtual 152, 3) := by decide +kernel
theorem dX11_tell_8 : decode cX11_tell 8 = .ok (.ifCond .eq 14, 3) := by decide +kernel
theorem dX11_tell_11 : decode cX11_tell 11 = .ok (.aload_n 0, 1) := by decide +kernel
theorem dX11_tell_12 : decode cX11_tell 12 = .ok (.getfield 19, 3) := by decide +kernel
theorem dX11_tell_15 : decode cX11_tell 15 = .ok (.iload_n 2, 1) := by decide +kernel
theorem dX11_tell_16 : decode cX11_tell 16 = .ok (.invokevirtual 152, 3) := by decide +kernel
theorem dX11_tell_19 : decode cX11_tell 19 = .ok (.ifCond .ne 5, 3) := by decide +kernel
theorem dX11_tell_22 : decode cX11_tell 22 = .ok (.iconst (-1), 1) := by decide +kernel
theorem dX11_tell_23 : decode cX11_tell 23 = .ok (.ireturn, 1) := by decide +kernel
theorem dX11_tell_24 : decode cX11_tell 24 = .ok (.iload_n 1, 1) := by decide +kernel
theorem dX11_tell_25 : decode cX11_tell 25 = .ok (.iload_n 2, 1) := by decide +kernel
theorem dX11_tell_26 : decode cX11_tell 26 = .ok (.if_icmp .ne 6, 3) := by decide +kernel
theorem dX11_tell_29 : decode cX11_tell 29 = .ok (.bipush (-2), 2) := by decide +kernel
theorem dX11_tell_31 : decode cX11_tell 31 = .ok (.ireturn, 1) := by decide +kernel
theorem dX11_tell_32 : decode cX11_tell 32 = .ok (.aload_n 0, 1) := by decide +kernel
theorem dX11_tell_33 : decode cX11_tell 33 = .ok (.getfield 19, 3) := by decide +kernel
theorem dX11_tell_36 : decode cX11_tell 36 = .ok (.getfield 106, 3) := by decide +kernel
theorem dX11_tell_39 : decode cX11_tell 39 = .ok (.iload_n 2, 1) := by decide +kernel
theorem dX11_tell_40 : decode cX11_tell 40 = .ok (.invokevirtual 161, 3) := by decide +kernel
theorem dX11_tell_43 : decode cX11_tell 43 = .ok (.istore_n 3, 1) := by decide +kernel
theorem dX11_tell_44 : decode cX11_tell 44 = .ok (.aload_n 0, 1) := by decide +kernel
theorem dX11_tell_45 : decode cX11_tell 45 = .ok (.getfield 19, 3) := by decide +kernel
theorem dX11_tell_48 : decode cX11_tell 48 = .ok (.getfield 106, 3) := by decide +kernel
theorem dX11_tell_51 : decode cX11_tell 51 = .ok (.iload_n 1, 1) := by decide +kernel
theorem dX11_tell_52 : decode cX11_tell 52 = .ok (.invokevirtual 161, 3) := by decide +kernel
theorem dX11_tell_55 : decode cX11_tell 55 = .ok (.iload_n 3, 1) := by decide +kernel
theorem dX11_tell_56 : decode cX11_tell 56 = .ok (.if_icmp .ne 6, 3) := by decide +kernel
theorem dX11_tell_59 : decode cX11_tell 59 = .ok (.bipush (-3), 2) := by decide +kernel
theorem dX11_tell_61 : decode cX11_tell 61 = .ok (.ireturn, 1) := by decide +kernel
theorem dX11_tell_62 : decode cX11_tell 62 = .ok (.aload_n 0, 1) := by decide +kernel
theorem dX11_tell_63 : decode cX11_tell 63 = .ok (.getfield 26, 3) := by decide +kernel
theorem dX11_tell_66 : decode cX11_tell 66 = .ok (.aload_n 0, 1) := by decide +kernel
theorem dX11_tell_67 : decode cX11_tell 67 = .ok (.getfield 19, 3) := by decide +kernel
theorem dX11_tell_70 : decode cX11_tell 70 = .ok (.getfield 106, 3) := by decide +kernel
theorem dX11_tell_73 : decode cX11_tell 73 = .ok (.invokevirtual 168, 3) := by decide +kernel
theorem dX11_tell_76 : decode cX11_tell 76 = .ok (.aload_n 0, 1) := by decide +kernel
theorem dX11_tell_77 : decode cX11_tell 77 = .ok (.getfield 19, 3) := by decide +kernel
theorem dX11_tell_80 : decode cX11_tell 80 = .ok (.getfield 106, 3) := by decide +kernel
theorem dX11_tell_83 : decode cX11_tell 83 = .ok (.iload_n 1, 1) := by decide +kernel
theorem dX11_tell_84 : decode cX11_tell 84 = .ok (.iload_n 3, 1) := by decide +kernel
theorem dX11_tell_85 : decode cX11_tell 85 = .ok (.invokevirtual 179, 3) := by decide +kernel
theorem dX11_tell_88 : decode cX11_tell 88 = .ok (.aload_n 0, 1) := by decide +kernel
theorem dX11_tell_89 : decode cX11_tell 89 = .ok (.getfield 19, 3) := by decide +kernel
theorem dX11_tell_92 : decode cX11_tell 92 = .ok (.getfield 110, 3) := by decide +kernel
theorem dX11_tell_95 : decode cX11_tell 95 = .ok (.iload_n 3, 1) := by decide +kernel
theorem dX11_tell_96 : decode cX11_tell 96 = .ok (.invokevirtual 122, 3) := by decide +kernel
theorem dX11_tell_99 : decode cX11_tell 99 = .ok (.ireturn, 1) := by decide +kernel
theorem dX11_learn_0 : decode cX11_learn 0 = .ok (.aload_n 0, 1) := by decide +kernel
theorem dX11_learn_1 : decode cX11_learn 1 = .ok (.getfield 19, 3) := by decide +kernel
theorem dX11_learn_4 : decode cX11_learn 4 = .ok (.iload_n 1, 1) := by decide +kernel
theorem dX11_learn_5 : decode cX11_learn 5 = .ok (.invokevirtual 146, 3) := by decide +kernel
theorem dX11_learn_8 : decode cX11_learn 8 = .ok (.ifCond .ne 5, 3) := by decide +kernel
theorem dX11_learn_11 : decode cX11_learn 11 = .ok (.iconst (-1), 1) := by decide +kernel
theorem dX11_learn_12 : decode cX11_learn 12 = .ok (.ireturn, 1) := by decide +kernel
theorem dX11_learn_13 : decode cX11_learn 13 = .ok (.iload_n 2, 1) := by decide +kernel
theorem dX11_learn_14 : decode cX11_learn 14 = .ok (.ifCond .lt 8, 3) := by decide +kernel
theorem dX11_learn_17 : decode cX11_learn 17 = .ok (.iload_n 2, 1) := by decide +kernel
theorem dX11_learn_18 : decode cX11_learn 18 = .ok (.iconst 4, 1) := by decide +kernel
theorem dX11_learn_19 : decode cX11_learn 19 = .ok (.if_icmp .lt 6, 3) := by decide +kernel
theorem dX11_learn_22 : decode cX11_learn 22 = .ok (.bipush (-2), 2) := by decide +kernel
theorem dX11_learn_24 : decode cX11_learn 24 = .ok (.ireturn, 1) := by decide +kernel
theorem dX11_learn_25 : decode cX11_learn 25 = .ok (.aload_n 0, 1) := by decide +kernel
theorem dX11_learn_26 : decode cX11_learn 26 = .ok (.getfield 19, 3) := by decide +kernel
theorem dX11_learn_29 : decode cX11_learn 29 = .ok (.getfield 106, 3) := by decide +kernel
theorem dX11_learn_32 : decode cX11_learn 32 = .ok (.iload_n 1, 1) := by decide +kernel
theorem dX11_learn_33 : decode cX11_learn 33 = .ok (.invokevirtual 149, 3) := by decide +kernel
theorem dX11_learn_36 : decode cX11_learn 36 = .ok (.istore_n 3, 1) := by decide +kernel
theorem dX11_learn_37 : decode cX11_learn 37 = .ok (.iload_n 3, 1) := by decide +kernel
theorem dX11_learn_38 : decode cX11_learn 38 = .ok (.iload_n 2, 1) := by decide +kernel
theorem dX11_learn_39 : decode cX11_learn 39 = .ok (.if_icmp .ne 6, 3) := by decide +kernel
theorem dX11_learn_42 : decode cX11_learn 42 = .ok (.bipush (-3), 2) := by decide +kernel
theorem dX11_learn_44 : decode cX11_learn 44 = .ok (.ireturn, 1) := by decide +kernel
theorem dX11_learn_45 : decode cX11_learn 45 = .ok (.aload_n 0, 1) := by decide +kernel
theorem dX11_learn_46 : decode cX11_learn 46 = .ok (.getfield 26, 3) := by decide +kernel
theorem dX11_learn_49 : decode cX11_learn 49 = .ok (.aload_n 0, 1) := by decide +kernel
theorem dX11_learn_50 : decode cX11_learn 50 = .ok (.getfield 19, 3) := by decide +kernel
theorem dX11_learn_53 : decode cX11_learn 53 = .ok (.getfield 106, 3) := by decide +kernel
theorem dX11_learn_56 : decode cX11_learn 56 = .ok (.invokevirtual 168, 3) := by decide +kernel
theorem dX11_learn_59 : decode cX11_learn 59 = .ok (.aload_n 0, 1) := by decide +kernel
theorem dX11_learn_60 : decode cX11_learn 60 = .ok (.getfield 19, 3) := by decide +kernel
theorem dX11_learn_63 : decode cX11_learn 63 = .ok (.getfield 106, 3) := by decide +kernel
theorem dX11_learn_66 : decode cX11_learn 66 = .ok (.iload_n 1, 1) := by decide +kernel
theorem dX11_learn_67 : decode cX11_learn 67 = .ok (.iload_n 2, 1) := by decide +kernel
theorem dX11_learn_68 : decode cX11_learn 68 = .ok (.invokevirtual 183, 3) := by decide +kernel
theorem dX11_learn_71 : decode cX11_learn 71 = .ok (.iload_n 3, 1) := by decide +kernel
theorem dX11_learn_72 : decode cX11_learn 72 = .ok (.ireturn, 1) := by decide +kernel
theorem dX11_undo_0 : decode cX11_undo 0 = .ok (.aload_n 0, 1) := by decide +kernel
theorem dX11_undo_1 : decode cX11_undo 1 = .ok (.getfield 26, 3) := by decide +kernel
theorem dX11_undo_4 : decode cX11_undo 4 = .ok (.aload_n 0, 1) := by decide +kernel
theorem dX11_undo_5 : decode cX11_undo 5 = .ok (.getfield 19, 3) := by decide +kernel
theorem dX11_undo_8 : decode cX11_undo 8 = .ok (.getfield 106, 3) := by decide +kernel
theorem dX11_undo_11 : decode cX11_undo 11 = .ok (.invokevirtual 186, 3) := by decide +kernel
theorem dX11_undo_14 : decode cX11_undo 14 = .ok (.ifCond .eq 13, 3) := by decide +kernel
theorem dX11_undo_17 : decode cX11_undo 17 = .ok (.aload_n 0, 1) := by decide +kernel
theorem dX11_undo_18 : decode cX11_undo 18 = .ok (.getfield 26, 3) := by decide +kernel
theorem dX11_undo_21 : decode cX11_undo 21 = .ok (.getfield 143, 3) := by decide +kernel
theorem dX11_undo_24 : decode cX11_undo 24 = .ok (.goto 5, 3) := by decide +kernel
theorem dX11_undo_27 : decode cX11_undo 27 = .ok (.bipush (-3), 2) := by decide +kernel
theorem dX11_undo_29 : decode cX11_undo 29 = .ok (.ireturn, 1) := by decide +kernel
theorem dX11_after_0 : decode cX11_after 0 = .ok (.aload_n 0, 1) := by decide +kernel
theorem dX11_after_1 : decode cX11_after 1 = .ok (.getfield 19, 3) := by decide +kernel
theorem dX11_after_4 : decode cX11_after 4 = .ok (.getfield 110, 3) := by decide +kernel
theorem dX11_after_7 : decode cX11_after 7 = .ok (.iload_n 1, 1) := by decide +kernel
theorem dX11_after_8 : decode cX11_after 8 = .ok (.invokevirtual 190, 3) := by decide +kernel
theorem dX11_after_11 : decode cX11_after 11 = .ok (.istore 5, 2) := by decide +kernel
theorem dX11_after_13 : decode cX11_after 13 = .ok (.iload 5, 2) := by decide +kernel
theorem dX11_after_15 : decode cX11_after 15 = .ok (.bipush (-9), 2) := by decide +kernel
theorem dX11_after_17 : decode cX11_after 17 = .ok (.if_icmp .eq 20, 3) := by decide +kernel
theorem dX11_after_20 : decode cX11_after 20 = .ok (.aload_n 0, 1) := by decide +kernel
theorem dX11_after_21 : decode cX11_after 21 = .ok (.getfield 42, 3) := by decide +kernel
theorem dX11_after_24 : decode cX11_after 24 = .ok (.aload_n 0, 1) := by decide +kernel
theorem dX11_after_25 : decode cX11_after 25 = .ok (.getfield 19, 3) := by decide +kernel
theorem dX11_after_28 : decode cX11_after 28 = .ok (.iload_n 2, 1) := by decide +kernel
theorem dX11_after_29 : decode cX11_after 29 = .ok (.iconst 4, 1) := by decide +kernel
theorem dX11_after_30 : decode cX11_after 30 = .ok (.lload_n 3, 1) := by decide +kernel
theorem dX11_after_31 : decode cX11_after 31 = .ok (.invokevirtual 193, 3) := by decide +kernel
theorem dX11_after_34 : decode cX11_after 34 = .ok (.ifCond .ne 6, 3) := by decide +kernel
theorem dX11_after_37 : decode cX11_after 37 = .ok (.bipush (-2), 2) := by decide +kernel
theorem dX11_after_39 : decode cX11_after 39 = .ok (.ireturn, 1) := by decide +kernel
theorem dX11_after_40 : decode cX11_after 40 = .ok (.aload_n 0, 1) := by decide +kernel
theorem dX11_after_41 : decode cX11_after 41 = .ok (.getfield 19, 3) := by decide +kernel
theorem dX11_after_44 : decode cX11_after 44 = .ok (.getfield 110, 3) := by decide +kernel
theorem dX11_after_47 : decode cX11_after 47 = .ok (.aload_n 0, 1) := by decide +kernel
theorem dX11_after_48 : decode cX11_after 48 = .ok (.getfield 42, 3) := by decide +kernel
theorem dX11_after_51 : decode cX11_after 51 = .ok (.aload_n 0, 1) := by decide +kernel
theorem dX11_after_52 : decode cX11_after 52 = .ok (.getfield 19, 3) := by decide +kernel
theorem dX11_after_55 : decode cX11_after 55 = .ok (.iload 5, 2) := by decide +kernel
theorem dX11_after_57 : decode cX11_after 57 = .ok (.invokevirtual 197, 3) := by decide +kernel
theorem dX11_after_60 : decode cX11_after 60 = .ok (.invokevirtual 122, 3) := by decide +kernel
theorem dX11_after_63 : decode cX11_after 63 = .ok (.ireturn, 1) := by decide +kernel
theorem dX11_righted_0 : decode cX11_righted 0 = .ok (.iload_n 1, 1) := by decide +kernel
theorem dX11_righted_1 : decode cX11_righted 1 = .ok (.ifCond .lt 8, 3) := by decide +kernel
theorem dX11_righted_4 : decode cX11_righted 4 = .ok (.iload_n 1, 1) := by decide +kernel
theorem dX11_righted_5 : decode cX11_righted 5 = .ok (.iconst 1, 1) := by decide +kernel
theorem dX11_righted_6 : decode cX11_righted 6 = .ok (.if_icmp .le 6, 3) := by decide +kernel
theorem dX11_righted_9 : decode cX11_righted 9 = .ok (.bipush (-2), 2) := by decide +kernel
theorem dX11_righted_11 : decode cX11_righted 11 = .ok (.ireturn, 1) := by decide +kernel
theorem dX11_righted_12 : decode cX11_righted 12 = .ok (.aload_n 0, 1) := by decide +kernel
theorem dX11_righted_13 : decode cX11_righted 13 = .ok (.getfield 49, 3) := by decide +kernel
theorem dX11_righted_16 : decode cX11_righted 16 = .ok (.aload_n 0, 1) := by decide +kernel
theorem dX11_righted_17 : decode cX11_righted 17 = .ok (.getfield 19, 3) := by decide +kernel
theorem dX11_righted_20 : decode cX11_righted 20 = .ok (.iconst 0, 1) := by decide +kernel
theorem dX11_righted_21 : decode cX11_righted 21 = .ok (.invokevirtual 201, 3) := by decide +kernel
theorem dX11_righted_24 : decode cX11_righted 24 = .ok (.iload_n 1, 1) := by decide +kernel
theorem dX11_righted_25 : decode cX11_righted 25 = .ok (.ifCond .ne 13, 3) := by decide +kernel
theorem dX11_righted_28 : decode cX11_righted 28 = .ok (.aload_n 0, 1) := by decide +kernel
theorem dX11_righted_29 : decode cX11_righted 29 = .ok (.getfield 49, 3) := by decide +kernel
theorem dX11_righted_32 : decode cX11_righted 32 = .ok (.getfield 205, 3) := by decide +kernel
theorem dX11_righted_35 : decode cX11_righted 35 = .ok (.goto 10, 3) := by decide +kernel
theorem dX11_righted_38 : decode cX11_righted 38 = .ok (.aload_n 0, 1) := by decide +kernel
theorem dX11_righted_39 : decode cX11_righted 39 = .ok (.getfield 49, 3) := by decide +kernel
theorem dX11_righted_42 : decode cX11_righted 42 = .ok (.getfield 208, 3) := by decide +kernel
theorem dX11_righted_45 : decode cX11_righted 45 = .ok (.ireturn, 1) := by decide +kernel
theorem dX11_allRighted_0 : decode cX11_allRighted 0 = .ok (.iload_n 1, 1) := by decide +kernel
theorem dX11_allRighted_1 : decode cX11_allRighted 1 = .ok (.ifCond .lt 8, 3) := by decide +kernel
theorem dX11_allRighted_4 : decode cX11_allRighted 4 = .ok (.iload_n 1, 1) := by decide +kernel
theorem dX11_allRighted_5 : decode cX11_allRighted 5 = .ok (.iconst 1, 1) := by decide +kernel
theorem dX11_allRighted_6 : decode cX11_allRighted 6 = .ok (.if_icmp .le 6, 3) := by decide +kernel
theorem dX11_allRighted_9 : decode cX11_allRighted 9 = .ok (.bipush (-2), 2) := by decide +kernel
theorem dX11_allRighted_11 : decode cX11_allRighted 11 = .ok (.ireturn, 1) := by decide +kernel
theorem dX11_allRighted_12 : decode cX11_allRighted 12 = .ok (.aload_n 0, 1) := by decide +kernel
theorem dX11_allRighted_13 : decode cX11_allRighted 13 = .ok (.getfield 49, 3) := by decide +kernel
theorem dX11_allRighted_16 : decode cX11_allRighted 16 = .ok (.aload_n 0, 1) := by decide +kernel
theorem dX11_allRighted_17 : decode cX11_allRighted 17 = .ok (.getfield 19, 3) := by decide +kernel
theorem dX11_allRighted_20 : decode cX11_allRighted 20 = .ok (.aload_n 0, 1) := by decide +kernel
theorem dX11_allRighted_21 : decode cX11_allRighted 21 = .ok (.getfield 19, 3) := by decide +kernel
theorem dX11_allRighted_24 : decode cX11_allRighted 24 = .ok (.getfield 103, 3) := by decide +kernel
theorem dX11_allRighted_27 : decode cX11_allRighted 27 = .ok (.invokevirtual 201, 3) := by decide +kernel
theorem dX11_allRighted_30 : decode cX11_allRighted 30 = .ok (.iload_n 1, 1) := by decide +kernel
theorem dX11_allRighted_31 : decode cX11_allRighted 31 = .ok (.ifCond .ne 13, 3) := by decide +kernel
theorem dX11_allRighted_34 : decode cX11_allRighted 34 = .ok (.aload_n 0, 1) := by decide +kernel
theorem dX11_allRighted_35 : decode cX11_allRighted 35 = .ok (.getfield 49, 3) := by decide +kernel
theorem dX11_allRighted_38 : decode cX11_allRighted 38 = .ok (.getfield 205, 3) := by decide +kernel
theorem dX11_allRighted_41 : decode cX11_allRighted 41 = .ok (.goto 10, 3) := by decide +kernel
theorem dX11_allRighted_44 : decode cX11_allRighted 44 = .ok (.aload_n 0, 1) := by decide +kernel
theorem dX11_allRighted_45 : decode cX11_allRighted 45 = .ok (.getfield 49, 3) := by decide +kernel
theorem dX11_allRighted_48 : decode cX11_allRighted 48 = .ok (.getfield 208, 3) := by decide +kernel
theorem dX11_allRighted_51 : decode cX11_allRighted 51 = .ok (.ireturn, 1) := by decide +kernel
theorem dX11_ring_0 : decode cX11_ring 0 = .ok (.aload_n 0, 1) := by decide +kernel
theorem dX11_ring_1 : decode cX11_ring 1 = .ok (.getfield 42, 3) := by decide +kernel
theorem dX11_ring_4 : decode cX11_ring 4 = .ok (.aload_n 0, 1) := by decide +kernel
theorem dX11_ring_5 : decode cX11_ring 5 = .ok (.getfield 19, 3) := by decide +kernel
theorem dX11_ring_8 : decode cX11_ring 8 = .ok (.iload_n 1, 1) := by decide +kernel
theorem dX11_ring_9 : decode cX11_ring 9 = .ok (.iconst 3, 1) := by decide +kernel
theorem dX11_ring_10 : decode cX11_ring 10 = .ok (.lload_n 2, 1) := by decide +kernel
theorem dX11_ring_11 : decode cX11_ring 11 = .ok (.invokevirtual 193, 3) := by decide +kernel
theorem dX11_ring_14 : decode cX11_ring 14 = .ok (.ifCond .eq 14, 3) := by decide +kernel
theorem dX11_ring_17 : decode cX11_ring 17 = .ok (.iload 4, 2) := by decide +kernel
theorem dX11_ring_19 : decode cX11_ring 19 = .ok (.ifCond .lt 9, 3) := by decide +kernel
theorem dX11_ring_22 : decode cX11_ring 22 = .ok (.iload 4, 2) := by decide +kernel
theorem dX11_ring_24 : decode cX11_ring 24 = .ok (.iconst 1, 1) := by decide +kernel
theorem dX11_ring_25 : decode cX11_ring 25 = .ok (.if_icmp .le 6, 3) := by decide +kernel
theorem dX11_ring_28 : decode cX11_ring 28 = .ok (.bipush (-2), 2) := by decide +kernel
theorem dX11_ring_30 : decode cX11_ring 30 = .ok (.ireturn, 1) := by decide +kernel
theorem dX11_ring_31 : decode cX11_ring 31 = .ok (.aload_n 0, 1) := by decide +kernel
theorem dX11_ring_32 : decode cX11_ring 32 = .ok (.getfield 42, 3) := by decide +kernel
theorem dX11_ring_35 : decode cX11_ring 35 = .ok (.aload_n 0, 1) := by decide +kernel
theorem dX11_ring_36 : decode cX11_ring 36 = .ok (.getfield 19, 3) := by decide +kernel
theorem dX11_ring_39 : decode cX11_ring 39 = .ok (.invokevirtual 211, 3) := by decide +kernel
theorem dX11_ring_42 : decode cX11_ring 42 = .ok (.istore 5, 2) := by decide +kernel
theorem dX11_ring_44 : decode cX11_ring 44 = .ok (.iload 4, 2) := by decide +kernel
theorem dX11_ring_46 : decode cX11_ring 46 = .ok (.ifCond .ne 19, 3) := by decide +kernel
theorem dX11_ring_49 : decode cX11_ring 49 = .ok (.aload_n 0, 1) := by decide +kernel
theorem dX11_ring_50 : decode cX11_ring 50 = .ok (.getfield 42, 3) := by decide +kernel
theorem dX11_ring_53 : decode cX11_ring 53 = .ok (.aload_n 0, 1) := by decide +kernel
theorem dX11_ring_54 : decode cX11_ring 54 = .ok (.getfield 19, 3) := by decide +kernel
theorem dX11_ring_57 : decode cX11_ring 57 = .ok (.iload 5, 2) := by decide +kernel
theorem dX11_ring_59 : decode cX11_ring 59 = .ok (.invokevirtual 215, 3) := by decide +kernel
theorem dX11_ring_62 : decode cX11_ring 62 = .ok (.goto 16, 3) := by decide +kernel
theorem dX11_ring_65 : decode cX11_ring 65 = .ok (.aload_n 0, 1) := by decide +kernel
theorem dX11_ring_66 : decode cX11_ring 66 = .ok (.getfield 42, 3) := by decide +kernel
theorem dX11_ring_69 : decode cX11_ring 69 = .ok (.aload_n 0, 1) := by decide +kernel
theorem dX11_ring_70 : decode cX11_ring 70 = .ok (.getfield 19, 3) := by decide +kernel
theorem dX11_ring_73 : decode cX11_ring 73 = .ok (.iload 5, 2) := by decide +kernel
theorem dX11_ring_75 : decode cX11_ring 75 = .ok (.invokevirtual 218, 3) := by decide +kernel
theorem dX11_ring_78 : decode cX11_ring 78 = .ok (.ireturn, 1) := by decide +kernel
theorem dX11_first_0 : decode cX11_first 0 = .ok (.aload_n 0, 1) := by decide +kernel
theorem dX11_first_1 : decode cX11_first 1 = .ok (.getfield 42, 3) := by decide +kernel
theorem dX11_first_4 : decode cX11_first 4 = .ok (.aload_n 0, 1) := by decide +kernel
theorem dX11_first_5 : decode cX11_first 5 = .ok (.getfield 19, 3) := by decide +kernel
theorem dX11_first_8 : decode cX11_first 8 = .ok (.iload_n 1, 1) := by decide +kernel
theorem dX11_first_9 : decode cX11_first 9 = .ok (.iconst 3, 1) := by decide +kernel
theorem dX11_first_10 : decode cX11_first 10 = .ok (.lload_n 2, 1) := by decide +kernel
theorem dX11_first_11 : decode cX11_first 11 = .ok (.invokevirtual 193, 3) := by decide +kernel
theorem dX11_first_14 : decode cX11_first 14 = .ok (.ifCond .eq 14, 3) := by decide +kernel
theorem dX11_first_17 : decode cX11_first 17 = .ok (.iload 4, 2) := by decide +kernel
theorem dX11_first_19 : decode cX11_first 19 = .ok (.ifCond .lt 9, 3) := by decide +kernel
theorem dX11_first_22 : decode cX11_first 22 = .ok (.iload 4, 2) := by decide +kernel
theorem dX11_first_24 : decode cX11_first 24 = .ok (.iconst 2, 1) := by decide +kernel
theorem dX11_first_25 : decode cX11_first 25 = .ok (.if_icmp .le 6, 3) := by decide +kernel
theorem dX11_first_28 : decode cX11_first 28 = .ok (.bipush (-2), 2) := by decide +kernel
theorem dX11_first_30 : decode cX11_first 30 = .ok (.ireturn, 1) := by decide +kernel
theorem dX11_first_31 : decode cX11_first 31 = .ok (.iconst 0, 1) := by decide +kernel
theorem dX11_first_32 : decode cX11_first 32 = .ok (.istore 5, 2) := by decide +kernel
theorem dX11_first_34 : decode cX11_first 34 = .ok (.bipush (-9), 2) := by decide +kernel
theorem dX11_first_36 : decode cX11_first 36 = .ok (.istore 6, 2) := by decide +kernel
theorem dX11_first_38 : decode cX11_first 38 = .ok (.iconst 0, 1) := by decide +kernel
theorem dX11_first_39 : decode cX11_first 39 = .ok (.istore 7, 2) := by decide +kernel
theorem dX11_first_41 : decode cX11_first 41 = .ok (.iconst 0, 1) := by decide +kernel
theorem dX11_first_42 : decode cX11_first 42 = .ok (.istore 8, 2) := by decide +kernel
theorem dX11_first_44 : decode cX11_first 44 = .ok (.iload 8, 2) := by decide +kernel
theorem dX11_first_46 : decode cX11_first 46 = .ok (.aload_n 0, 1) := by decide +kernel
theorem dX11_first_47 : decode cX11_first 47 = .ok (.getfield 19, 3) := by decide +kernel
theorem dX11_first_50 : decode cX11_first 50 = .ok (.getfield 110, 3) := by decide +kernel
theorem dX11_first_53 : decode cX11_first 53 = .ok (.invokevirtual 221, 3) := by decide +kernel
theorem dX11_first_56 : decode cX11_first 56 = .ok (.if_icmp .ge 62, 3) := by decide +kernel
theorem dX11_first_59 : decode cX11_first 59 = .ok (.aload_n 0, 1) := by decide +kernel
theorem dX11_first_60 : decode cX11_first 60 = .ok (.getfield 42, 3) := by decide +kernel
theorem dX11_first_63 : decode cX11_first 63 = .ok (.aload_n 0, 1) := by decide +kernel
theorem dX11_first_64 : decode cX11_first 64 = .ok (.getfield 19, 3) := by decide +kernel
theorem dX11_first_67 : decode cX11_first 67 = .ok (.iload 8, 2) := by decide +kernel
theorem dX11_first_69 : decode cX11_first 69 = .ok (.invokevirtual 197, 3) := by decide +kernel
theorem dX11_first_72 : decode cX11_first 72 = .ok (.aload_n 0, 1) := by decide +kernel
theorem dX11_first_73 : decode cX11_first 73 = .ok (.getfield 19, 3) := by decide +kernel
theorem dX11_first_76 : decode cX11_first 76 = .ok (.getfield 106, 3) := by decide +kernel
theorem dX11_first_79 : decode cX11_first 79 = .ok (.invokevirtual 126, 3) := by decide +kernel
theorem dX11_first_82 : decode cX11_first 82 = .ok (.if_icmp .ne 30, 3) := by decide +kernel
theorem dX11_first_85 : decode cX11_first 85 = .ok (.iload 5, 2) := by decide +kernel
theorem dX11_first_87 : decode cX11_first 87 = .ok (.ifCond .ne 8, 3) := by decide +kernel
theorem dX11_first_90 : decode cX11_first 90 = .ok (.iload 8, 2) := by decide +kernel
theorem dX11_first_92 : decode cX11_first 92 = .ok (.goto 5, 3) := by decide +kernel
theorem dX11_first_95 : decode cX11_first 95 = .ok (.iload 6, 2) := by decide +kernel
theorem dX11_first_97 : decode cX11_first 97 = .ok (.istore 6, 2) := by decide +kernel
theorem dX11_first_99 : decode cX11_first 99 = .ok (.iload 7, 2) := by decide +kernel
theorem dX11_first_101 : decode cX11_first 101 = .ok (.iload 8, 2) := by decide +kernel
theorem dX11_first_103 : decode cX11_first 103 = .ok (.iload 6, 2) := by decide +kernel
theorem dX11_first_105 : decode cX11_first 105 = .ok (.ixor, 1) := by decide +kernel
theorem dX11_first_106 : decode cX11_first 106 = .ok (.ior, 1) := by decide +kernel
theorem dX11_first_107 : decode cX11_first 107 = .ok (.istore 7, 2) := by decide +kernel
theorem dX11_first_109 : decode cX11_first 109 = .ok (.iinc 5 1, 3) := by decide +kernel
theorem dX11_first_112 : decode cX11_first 112 = .ok (.iinc 8 1, 3) := by decide +kernel
theorem dX11_first_115 : decode cX11_first 115 = .ok (.goto (-71), 3) := by decide +kernel
theorem dX11_first_118 : decode cX11_first 118 = .ok (.iload 4, 2) := by decide +kernel
theorem dX11_first_120 : decode cX11_first 120 = .ok (.ifCond .ne 6, 3) := by decide +kernel
theorem dX11_first_123 : decode cX11_first 123 = .ok (.iload 5, 2) := by decide +kernel
theorem dX11_first_125 : decode cX11_first 125 = .ok (.ireturn, 1) := by decide +kernel
theorem dX11_first_126 : decode cX11_first 126 = .ok (.iload 5, 2) := by decide +kernel
theorem dX11_first_128 : decode cX11_first 128 = .ok (.ifCond .ne 6, 3) := by decide +kernel
theorem dX11_first_131 : decode cX11_first 131 = .ok (.bipush (-9), 2) := by decide +kernel
theorem dX11_first_133 : decode cX11_first 133 = .ok (.ireturn, 1) := by decide +kernel
theorem dX11_first_134 : decode cX11_first 134 = .ok (.iload 4, 2) := by decide +kernel
theorem dX11_first_136 : decode cX11_first 136 = .ok (.iconst 1, 1) := by decide +kernel
theorem dX11_first_137 : decode cX11_first 137 = .ok (.if_icmp .ne 18, 3) := by decide +kernel
theorem dX11_first_140 : decode cX11_first 140 = .ok (.aload_n 0, 1) := by decide +kernel
theorem dX11_first_141 : decode cX11_first 141 = .ok (.getfield 19, 3) := by decide +kernel
theorem dX11_first_144 : decode cX11_first 144 = .ok (.getfield 110, 3) := by decide +kernel
theorem dX11_first_147 : decode cX11_first 147 = .ok (.iload 6, 2) := by decide +kernel
theorem dX11_first_149 : decode cX11_first 149 = .ok (.invokevirtual 122, 3) := by decide +kernel
theorem dX11_first_152 : decode cX11_first 152 = .ok (.goto 15, 3) := by decide +kernel
theorem dX11_first_155 : decode cX11_first 155 = .ok (.aload_n 0, 1) := by decide +kernel
theorem dX11_first_156 : decode cX11_first 156 = .ok (.getfield 19, 3) := by decide +kernel
theorem dX11_first_159 : decode cX11_first 159 = .ok (.getfield 110, 3) := by decide +kernel
theorem dX11_first_162 : decode cX11_first 162 = .ok (.iload 7, 2) := by decide +kernel
theorem dX11_first_164 : decode cX11_first 164 = .ok (.invokevirtual 224, 3) := by decide +kernel
theorem dX11_first_167 : decode cX11_first 167 = .ok (.ireturn, 1) := by decide +kernel
theorem dX11_who_0 : decode cX11_who 0 = .ok (.aload_n 0, 1) := by decide +kernel
theorem dX11_who_1 : decode cX11_who 1 = .ok (.getfield 19, 3) := by decide +kernel
theorem dX11_who_4 : decode cX11_who 4 = .ok (.getfield 110, 3) := by decide +kernel
theorem dX11_who_7 : decode cX11_who 7 = .ok (.iload_n 1, 1) := by decide +kernel
theorem dX11_who_8 : decode cX11_who 8 = .ok (.invokevirtual 190, 3) := by decide +kernel
theorem dX11_who_11 : decode cX11_who 11 = .ok (.istore 5, 2) := by decide +kernel
theorem dX11_who_13 : decode cX11_who 13 = .ok (.aload_n 0, 1) := by decide +kernel
theorem dX11_who_14 : decode cX11_who 14 = .ok (.getfield 19, 3) := by decide +kernel
theorem dX11_who_17 : decode cX11_who 17 = .ok (.getfield 110, 3) := by decide +kernel
theorem dX11_who_20 : decode cX11_who 20 = .ok (.iload_n 2, 1) := by decide +kernel
theorem dX11_who_21 : decode cX11_who 21 = .ok (.invokevirtual 190, 3) := by decide +kernel
theorem dX11_who_24 : decode cX11_who 24 = .ok (.istore 6, 2) := by decide +kernel
theorem dX11_who_26 : decode cX11_who 26 = .ok (.iload 5, 2) := by decide +kernel
theorem dX11_who_28 : decode cX11_who 28 = .ok (.bipush (-9), 2) := by decide +kernel
theorem dX11_who_30 : decode cX11_who 30 = .ok (.if_icmp .eq 23, 3) := by decide +kernel
theorem dX11_who_33 : decode cX11_who 33 = .ok (.iload 6, 2) := by decide +kernel
theorem dX11_who_35 : decode cX11_who 35 = .ok (.bipush (-9), 2) := by decide +kernel
theorem dX11_who_37 : decode cX11_who 37 = .ok (.if_icmp .eq 16, 3) := by decide +kernel
theorem dX11_who_40 : decode cX11_who 40 = .ok (.aload_n 0, 1) := by decide +kernel
theorem dX11_who_41 : decode cX11_who 41 = .ok (.getfield 19, 3) := by decide +kernel
theorem dX11_who_44 : decode cX11_who 44 = .ok (.iload_n 3, 1) := by decide +kernel
theorem dX11_who_45 : decode cX11_who 45 = .ok (.iload 4, 2) := by decide +kernel
theorem dX11_who_47 : decode cX11_who 47 = .ok (.invokevirtual 164, 3) := by decide +kernel
theorem dX11_who_50 : decode cX11_who 50 = .ok (.ifCond .ne 6, 3) := by decide +kernel
theorem dX11_who_53 : decode cX11_who 53 = .ok (.bipush (-2), 2) := by decide +kernel
theorem dX11_who_55 : decode cX11_who 55 = .ok (.ireturn, 1) := by decide +kernel
theorem dX11_who_56 : decode cX11_who 56 = .ok (.iconst 0, 1) := by decide +kernel
theorem dX11_who_57 : decode cX11_who 57 = .ok (.istore 7, 2) := by decide +kernel
theorem dX11_who_59 : decode cX11_who 59 = .ok (.iconst 0, 1) := by decide +kernel
theorem dX11_who_60 : decode cX11_who 60 = .ok (.istore 8, 2) := by decide +kernel
theorem dX11_who_62 : decode cX11_who 62 = .ok (.iload 8, 2) := by decide +kernel
theorem dX11_who_64 : decode cX11_who 64 = .ok (.aload_n 0, 1) := by decide +kernel
theorem dX11_who_65 : decode cX11_who 65 = .ok (.getfield 19, 3) := by decide +kernel
theorem dX11_who_68 : decode cX11_who 68 = .ok (.getfield 100, 3) := by decide +kernel
theorem dX11_who_71 : decode cX11_who 71 = .ok (.if_icmp .ge 37, 3) := by decide +kernel
theorem dX11_who_74 : decode cX11_who 74 = .ok (.aload_n 0, 1) := by decide +kernel
theorem dX11_who_75 : decode cX11_who 75 = .ok (.getfield 19, 3) := by decide +kernel
theorem dX11_who_78 : decode cX11_who 78 = .ok (.iload 8, 2) := by decide +kernel
theorem dX11_who_80 : decode cX11_who 80 = .ok (.iload 5, 2) := by decide +kernel
theorem dX11_who_82 : decode cX11_who 82 = .ok (.iload_n 3, 1) := by decide +kernel
theorem dX11_who_83 : decode cX11_who 83 = .ok (.iload 4, 2) := by decide +kernel
theorem dX11_who_85 : decode cX11_who 85 = .ok (.invokevirtual 227, 3) := by decide +kernel
theorem dX11_who_88 : decode cX11_who 88 = .ok (.iload 6, 2) := by decide +kernel
theorem dX11_who_90 : decode cX11_who 90 = .ok (.if_icmp .ne 12, 3) := by decide +kernel
theorem dX11_who_93 : decode cX11_who 93 = .ok (.iload 7, 2) := by decide +kernel
theorem dX11_who_95 : decode cX11_who 95 = .ok (.iconst 1, 1) := by decide +kernel
theorem dX11_who_96 : decode cX11_who 96 = .ok (.iload 8, 2) := by decide +kernel
theorem dX11_who_98 : decode cX11_who 98 = .ok (.ishl, 1) := by decide +kernel
theorem dX11_who_99 : decode cX11_who 99 = .ok (.ior, 1) := by decide +kernel
theorem dX11_who_100 : decode cX11_who 100 = .ok (.istore 7, 2) := by decide +kernel
theorem dX11_who_102 : decode cX11_who 102 = .ok (.iinc 8 1, 3) := by decide +kernel
theorem dX11_who_105 : decode cX11_who 105 = .ok (.goto (-43), 3) := by decide +kernel
theorem dX11_who_108 : decode cX11_who 108 = .ok (.iload 7, 2) := by decide +kernel
theorem dX11_who_110 : decode cX11_who 110 = .ok (.ireturn, 1) := by decide +kernel
theorem dX11_code_0 : decode cX11_code 0 = .ok (.iload_n 1, 1) := by decide +kernel
theorem dX11_code_1 : decode cX11_code 1 = .ok (.iconst 1, 1) := by decide +kernel
theorem dX11_code_2 : decode cX11_code 2 = .ok (.if_icmp .lt 8, 3) := by decide +kernel
theorem dX11_code_5 : decode cX11_code 5 = .ok (.iload_n 1, 1) := by decide +kernel
theorem dX11_code_6 : decode cX11_code 6 = .ok (.iconst 5, 1) := by decide +kernel
theorem dX11_code_7 : decode cX11_code 7 = .ok (.if_icmp .le 6, 3) := by decide +kernel
theorem dX11_code_10 : decode cX11_code 10 = .ok (.bipush (-2), 2) := by decide +kernel
theorem dX11_code_12 : decode cX11_code 12 = .ok (.ireturn, 1) := by decide +kernel
theorem dX11_code_13 : decode cX11_code 13 = .ok (.aload_n 0, 1) := by decide +kernel
theorem dX11_code_14 : decode cX11_code 14 = .ok (.getfield 56, 3) := by decide +kernel
theorem dX11_code_17 : decode cX11_code 17 = .ok (.aload_n 0, 1) := by decide +kernel
theorem dX11_code_18 : decode cX11_code 18 = .ok (.getfield 19, 3) := by decide +kernel
theorem dX11_code_21 : decode cX11_code 21 = .ok (.getfield 110, 3) := by decide +kernel
theorem dX11_code_24 : decode cX11_code 24 = .ok (.iload_n 1, 1) := by decide +kernel
theorem dX11_code_25 : decode cX11_code 25 = .ok (.iconst 0, 1) := by decide +kernel
theorem dX11_code_26 : decode cX11_code 26 = .ok (.invokevirtual 231, 3) := by decide +kernel
theorem dX11_code_29 : decode cX11_code 29 = .ok (.aload_n 0, 1) := by decide +kernel
theorem dX11_code_30 : decode cX11_code 30 = .ok (.getfield 56, 3) := by decide +kernel
theorem dX11_code_33 : decode cX11_code 33 = .ok (.getfield 235, 3) := by decide +kernel
theorem dX11_code_36 : decode cX11_code 36 = .ok (.ireturn, 1) := by decide +kernel
theorem dX11_codeName_0 : decode cX11_codeName 0 = .ok (.iload_n 1, 1) := by decide +kernel
theorem dX11_codeName_1 : decode cX11_codeName 1 = .ok (.iconst 1, 1) := by decide +kernel
theorem dX11_codeName_2 : decode cX11_codeName 2 = .ok (.if_icmp .lt 8, 3) := by decide +kernel
theorem dX11_codeName_5 : decode cX11_codeName 5 = .ok (.iload_n 1, 1) := by decide +kernel
theorem dX11_codeName_6 : decode cX11_codeName 6 = .ok (.iconst 5, 1) := by decide +kernel
theorem dX11_codeName_7 : decode cX11_codeName 7 = .ok (.if_icmp .le 6, 3) := by decide +kernel
theorem dX11_codeName_10 : decode cX11_codeName 10 = .ok (.bipush (-2), 2) := by decide +kernel
theorem dX11_codeName_12 : decode cX11_codeName 12 = .ok (.ireturn, 1) := by decide +kernel
theorem dX11_codeName_13 : decode cX11_codeName 13 = .ok (.aload_n 0, 1) := by decide +kernel
theorem dX11_codeName_14 : decode cX11_codeName 14 = .ok (.getfield 56, 3) := by decide +kernel
theorem dX11_codeName_17 : decode cX11_codeName 17 = .ok (.aload_n 0, 1) := by decide +kernel
theorem dX11_codeName_18 : decode cX11_codeName 18 = .ok (.getfield 19, 3) := by decide +kernel
theorem dX11_codeName_21 : decode cX11_codeName 21 = .ok (.getfield 110, 3) := by decide +kernel
theorem dX11_codeName_24 : decode cX11_codeName 24 = .ok (.iload_n 1, 1) := by decide +kernel
theorem dX11_codeName_25 : decode cX11_codeName 25 = .ok (.iload_n 2, 1) := by decide +kernel
theorem dX11_codeName_26 : decode cX11_codeName 26 = .ok (.invokevirtual 231, 3) := by decide +kernel
theorem dX11_codeName_29 : decode cX11_codeName 29 = .ok (.aload_n 0, 1) := by decide +kernel
theorem dX11_codeName_30 : decode cX11_codeName 30 = .ok (.getfield 56, 3) := by decide +kernel
theorem dX11_codeName_33 : decode cX11_codeName 33 = .ok (.getfield 236, 3) := by decide +kernel
theorem dX11_codeName_36 : decode cX11_codeName 36 = .ok (.bipush (-9), 2) := by decide +kernel
theorem dX11_codeName_38 : decode cX11_codeName 38 = .ok (.if_icmp .ne 8, 3) := by decide +kernel
theorem dX11_codeName_41 : decode cX11_codeName 41 = .ok (.bipush (-3), 2) := by decide +kernel
theorem dX11_codeName_43 : decode cX11_codeName 43 = .ok (.goto 20, 3) := by decide +kernel
theorem dX11_codeName_46 : decode cX11_codeName 46 = .ok (.aload_n 0, 1) := by decide +kernel
theorem dX11_codeName_47 : decode cX11_codeName 47 = .ok (.getfield 19, 3) := by decide +kernel
theorem dX11_codeName_50 : decode cX11_codeName 50 = .ok (.getfield 110, 3) := by decide +kernel
theorem dX11_codeName_53 : decode cX11_codeName 53 = .ok (.aload_n 0, 1) := by decide +kernel
theorem dX11_codeName_54 : decode cX11_codeName 54 = .ok (.getfield 56, 3) := by decide +kernel
theorem dX11_codeName_57 : decode cX11_codeName 57 = .ok (.getfield 236, 3) := by decide +kernel
theorem dX11_codeName_60 : decode cX11_codeName 60 = .ok (.invokevirtual 122, 3) := by decide +kernel
theorem dX11_codeName_63 : decode cX11_codeName 63 = .ok (.ireturn, 1) := by decide +kernel
theorem dX11_rests_0 : decode cX11_rests 0 = .ok (.aload_n 0, 1) := by decide +kernel
theorem dX11_rests_1 : decode cX11_rests 1 = .ok (.getfield 19, 3) := by decide +kernel
theorem dX11_rests_4 : decode cX11_rests 4 = .ok (.iload_n 1, 1) := by decide +kernel
theorem dX11_rests_5 : decode cX11_rests 5 = .ok (.iload_n 2, 1) := by decide +kernel
theorem dX11_rests_6 : decode cX11_rests 6 = .ok (.invokevirtual 164, 3) := by decide +kernel
theorem dX11_rests_9 : decode cX11_rests 9 = .ok (.ifCond .eq 27, 3) := by decide +kernel
theorem dX11_rests_12 : decode cX11_rests 12 = .ok (.aload_n 0, 1) := by decide +kernel
theorem dX11_rests_13 : decode cX11_rests 13 = .ok (.getfield 19, 3) := by decide +kernel
theorem dX11_rests_16 : decode cX11_rests 16 = .ok (.iload_n 3, 1) := by decide +kernel
theorem dX11_rests_17 : decode cX11_rests 17 = .ok (.iload 4, 2) := by decide +kernel
theorem dX11_rests_19 : decode cX11_rests 19 = .ok (.invokevirtual 164, 3) := by decide +kernel
theorem dX11_rests_22 : decode cX11_rests 22 = .ok (.ifCond .eq 14, 3) := by decide +kernel
theorem dX11_rests_25 : decode cX11_rests 25 = .ok (.iload 5, 2) := by decide +kernel
theorem dX11_rests_27 : decode cX11_rests 27 = .ok (.ifCond .lt 9, 3) := by decide +kernel
theorem dX11_rests_30 : decode cX11_rests 30 = .ok (.iload 5, 2) := by decide +kernel
theorem dX11_rests_32 : decode cX11_rests 32 = .ok (.iconst 1, 1) := by decide +kernel
theorem dX11_rests_33 : decode cX11_rests 33 = .ok (.if_icmp .le 6, 3) := by decide +kernel
theorem dX11_rests_36 : decode cX11_rests 36 = .ok (.bipush (-2), 2) := by decide +kernel
theorem dX11_rests_38 : decode cX11_rests 38 = .ok (.ireturn, 1) := by decide +kernel
theorem dX11_rests_39 : decode cX11_rests 39 = .ok (.aload_n 0, 1) := by decide +kernel
theorem dX11_rests_40 : decode cX11_rests 40 = .ok (.getfield 63, 3) := by decide +kernel
theorem dX11_rests_43 : decode cX11_rests 43 = .ok (.aload_n 0, 1) := by decide +kernel
theorem dX11_rests_44 : decode cX11_rests 44 = .ok (.getfield 19, 3) := by decide +kernel
theorem dX11_rests_47 : decode cX11_rests 47 = .ok (.iload_n 1, 1) := by decide +kernel
theorem dX11_rests_48 : decode cX11_rests 48 = .ok (.iload_n 2, 1) := by decide +kernel
theorem dX11_rests_49 : decode cX11_rests 49 = .ok (.iload_n 3, 1) := by decide +kernel
theorem dX11_rests_50 : decode cX11_rests 50 = .ok (.iload 4, 2) := by decide +kernel
theorem dX11_rests_52 : decode cX11_rests 52 = .ok (.invokevirtual 239, 3) := by decide +kernel
theorem dX11_rests_55 : decode cX11_rests 55 = .ok (.iload 5, 2) := by decide +kernel
theorem dX11_rests_57 : decode cX11_rests 57 = .ok (.ifCond .ne 13, 3) := by decide +kernel
theorem dX11_rests_60 : decode cX11_rests 60 = .ok (.aload_n 0, 1) := by decide +kernel
theorem dX11_rests_61 : decode cX11_rests 61 = .ok (.getfield 63, 3) := by decide +kernel
theorem dX11_rests_64 : decode cX11_rests 64 = .ok (.invokevirtual 243, 3) := by decide +kernel
theorem dX11_rests_67 : decode cX11_rests 67 = .ok (.goto 10, 3) := by decide +kernel
theorem dX11_rests_70 : decode cX11_rests 70 = .ok (.aload_n 0, 1) := by decide +kernel
theorem dX11_rests_71 : decode cX11_rests 71 = .ok (.getfield 63, 3) := by decide +kernel
theorem dX11_rests_74 : decode cX11_rests 74 = .ok (.invokevirtual 246, 3) := by decide +kernel
theorem dX11_rests_77 : decode cX11_rests 77 = .ok (.ireturn, 1) := by decide +kernel
theorem dX11_chance_0 : decode cX11_chance 0 = .ok (.aload_n 0, 1) := by decide +kernel
theorem dX11_chance_1 : decode cX11_chance 1 = .ok (.getfield 19, 3) := by decide +kernel
theorem dX11_chance_4 : decode cX11_chance 4 = .ok (.iload_n 1, 1) := by decide +kernel
theorem dX11_chance_5 : decode cX11_chance 5 = .ok (.invokevirtual 146, 3) := by decide +kernel
theorem dX11_chance_8 : decode cX11_chance 8 = .ok (.ifCond .ne 5, 3) := by decide +kernel
theorem dX11_chance_11 : decode cX11_chance 11 = .ok (.iconst (-1), 1) := by decide +kernel
theorem dX11_chance_12 : decode cX11_chance 12 = .ok (.ireturn, 1) := by decide +kernel
theorem dX11_chance_13 : decode cX11_chance 13 = .ok (.iload_n 2, 1) := by decide +kernel
theorem dX11_chance_14 : decode cX11_chance 14 = .ok (.iconst 1, 1) := by decide +kernel
theorem dX11_chance_15 : decode cX11_chance 15 = .ok (.if_icmp .lt 18, 3) := by decide +kernel
theorem dX11_chance_18 : decode cX11_chance 18 = .ok (.iload_n 2, 1) := by decide +kernel
theorem dX11_chance_19 : decode cX11_chance 19 = .ok (.iconst 4, 1) := by decide +kernel
theorem dX11_chance_20 : decode cX11_chance 20 = .ok (.if_icmp .gt 13, 3) := by decide +kernel
theorem dX11_chance_23 : decode cX11_chance 23 = .ok (.iload_n 3, 1) := by decide +kernel
theorem dX11_chance_24 : decode cX11_chance 24 = .ok (.ifCond .lt 9, 3) := by decide +kernel
theorem dX11_chance_27 : decode cX11_chance 27 = .ok (.iload_n 3, 1) := by decide +kernel
theorem dX11_chance_28 : decode cX11_chance 28 = .ok (.bipush 10, 2) := by decide +kernel
theorem dX11_chance_30 : decode cX11_chance 30 = .ok (.if_icmp .le 6, 3) := by decide +kernel
theorem dX11_chance_33 : decode cX11_chance 33 = .ok (.bipush (-2), 2) := by decide +kernel
theorem dX11_chance_35 : decode cX11_chance 35 = .ok (.ireturn, 1) := by decide +kernel
theorem dX11_chance_36 : decode cX11_chance 36 = .ok (.aload_n 0, 1) := by decide +kernel
theorem dX11_chance_37 : decode cX11_chance 37 = .ok (.getfield 70, 3) := by decide +kernel
theorem dX11_chance_40 : decode cX11_chance 40 = .ok (.aload_n 0, 1) := by decide +kernel
theorem dX11_chance_41 : decode cX11_chance 41 = .ok (.getfield 19, 3) := by decide +kernel
theorem dX11_chance_44 : decode cX11_chance 44 = .ok (.iload_n 1, 1) := by decide +kernel
theorem dX11_chance_45 : decode cX11_chance 45 = .ok (.iload_n 2, 1) := by decide +kernel
theorem dX11_chance_46 : decode cX11_chance 46 = .ok (.iload_n 3, 1) := by decide +kernel
theorem dX11_chance_47 : decode cX11_chance 47 = .ok (.invokevirtual 249, 3) := by decide +kernel
theorem dX11_chance_50 : decode cX11_chance 50 = .ok (.iload_n 2, 1) := by decide +kernel
theorem dX11_chance_51 : decode cX11_chance 51 = .ok (.invokestatic 253, 3) := by decide +kernel
theorem dX11_chance_54 : decode cX11_chance 54 = .ok (.iload 4, 2) := by decide +kernel
theorem dX11_chance_56 : decode cX11_chance 56 = .ok (.invokestatic 256, 3) := by decide +kernel
theorem dX11_chance_59 : decode cX11_chance 59 = .ok (.ireturn, 1) := by decide +kernel
theorem dX11_share_0 : decode cX11_share 0 = .ok (.aload_n 0, 1) := by decide +kernel
theorem dX11_share_1 : decode cX11_share 1 = .ok (.getfield 19, 3) := by decide +kernel
theorem dX11_share_4 : decode cX11_share 4 = .ok (.iload_n 1, 1) := by decide +kernel
theorem dX11_share_5 : decode cX11_share 5 = .ok (.invokevirtual 146, 3) := by decide +kernel
theorem dX11_share_8 : decode cX11_share 8 = .ok (.ifCond .ne 5, 3) := by decide +kernel
theorem dX11_share_11 : decode cX11_share 11 = .ok (.iconst (-1), 1) := by decide +kernel
theorem dX11_share_12 : decode cX11_share 12 = .ok (.ireturn, 1) := by decide +kernel
theorem dX11_share_13 : decode cX11_share 13 = .ok (.aload_n 0, 1) := by decide +kernel
theorem dX11_share_14 : decode cX11_share 14 = .ok (.getfield 70, 3) := by decide +kernel
theorem dX11_share_17 : decode cX11_share 17 = .ok (.aload_n 0, 1) := by decide +kernel
theorem dX11_share_18 : decode cX11_share 18 = .ok (.getfield 19, 3) := by decide +kernel
theorem dX11_share_21 : decode cX11_share 21 = .ok (.invokevirtual 260, 3) := by decide +kernel
theorem dX11_share_24 : decode cX11_share 24 = .ok (.aload_n 0, 1) := by decide +kernel
theorem dX11_share_25 : decode cX11_share 25 = .ok (.getfield 70, 3) := by decide +kernel
theorem dX11_share_28 : decode cX11_share 28 = .ok (.iload_n 1, 1) := by decide +kernel
theorem dX11_share_29 : decode cX11_share 29 = .ok (.invokevirtual 264, 3) := by decide +kernel
theorem dX11_share_32 : decode cX11_share 32 = .ok (.aload_n 0, 1) := by decide +kernel
theorem dX11_share_33 : decode cX11_share 33 = .ok (.getfield 70, 3) := by decide +kernel
theorem dX11_share_36 : decode cX11_share 36 = .ok (.invokevirtual 267, 3) := by decide +kernel
theorem dX11_share_39 : decode cX11_share 39 = .ok (.iload_n 2, 1) := by decide +kernel
theorem dX11_share_40 : decode cX11_share 40 = .ok (.invokestatic 256, 3) := by decide +kernel
theorem dX11_share_43 : decode cX11_share 43 = .ok (.ireturn, 1) := by decide +kernel
theorem dX11_seed_0 : decode cX11_seed 0 = .ok (.aload_n 0, 1) := by decide +kernel
theorem dX11_seed_1 : decode cX11_seed 1 = .ok (.getfield 78, 3) := by decide +kernel
theorem dX11_seed_4 : decode cX11_seed 4 = .ok (.lstore_n 3, 1) := by decide +kernel
theorem dX11_seed_5 : decode cX11_seed 5 = .ok (.aload_n 0, 1) := by decide +kernel
theorem dX11_seed_6 : decode cX11_seed 6 = .ok (.lload_n 1, 1) := by decide +kernel
theorem dX11_seed_7 : decode cX11_seed 7 = .ok (.putfield 78, 3) := by decide +kernel
theorem dX11_seed_10 : decode cX11_seed 10 = .ok (.lload_n 3, 1) := by decide +kernel
theorem dX11_seed_11 : decode cX11_seed 11 = .ok (.lreturn, 1) := by decide +kernel
theorem dX11_years_0 : decode cX11_years 0 = .ok (.iload_n 1, 1) := by decide +kernel
theorem dX11_years_1 : decode cX11_years 1 = .ok (.iconst 1, 1) := by decide +kernel
theorem dX11_years_2 : decode cX11_years 2 = .ok (.if_icmp .lt 9, 3) := by decide +kernel
theorem dX11_years_5 : decode cX11_years 5 = .ok (.iload_n 1, 1) := by decide +kernel
theorem dX11_years_6 : decode cX11_years 6 = .ok (.bipush 30, 2) := by decide +kernel
theorem dX11_years_8 : decode cX11_years 8 = .ok (.if_icmp .le 6, 3) := by decide +kernel
theorem dX11_years_11 : decode cX11_years 11 = .ok (.bipush (-2), 2) := by decide +kernel
theorem dX11_years_13 : decode cX11_years 13 = .ok (.ireturn, 1) := by decide +kernel
theorem dX11_years_14 : decode cX11_years 14 = .ok (.aload_n 0, 1) := by decide +kernel
theorem dX11_years_15 : decode cX11_years 15 = .ok (.getfield 19, 3) := by decide +kernel
theorem dX11_years_18 : decode cX11_years 18 = .ok (.getfield 106, 3) := by decide +kernel
theorem dX11_years_21 : decode cX11_years 21 = .ok (.invokevirtual 126, 3) := by decide +kernel
theorem dX11_years_24 : decode cX11_years 24 = .ok (.istore_n 2, 1) := by decide +kernel
theorem dX11_years_25 : decode cX11_years 25 = .ok (.iconst 0, 1) := by decide +kernel
theorem dX11_years_26 : decode cX11_years 26 = .ok (.istore_n 3, 1) := by decide +kernel
theorem dX11_years_27 : decode cX11_years 27 = .ok (.iconst 0, 1) := by decide +kernel
theorem dX11_years_28 : decode cX11_years 28 = .ok (.istore 4, 2) := by decide +kernel
theorem dX11_years_30 : decode cX11_years 30 = .ok (.iload 4, 2) := by decide +kernel
theorem dX11_years_32 : decode cX11_years 32 = .ok (.iload_n 1, 1) := by decide +kernel
theorem dX11_years_33 : decode cX11_years 33 = .ok (.if_icmp .ge 110, 3) := by decide +kernel
theorem dX11_years_36 : decode cX11_years 36 = .ok (.aload_n 0, 1) := by decide +kernel
theorem dX11_years_37 : decode cX11_years 37 = .ok (.aload_n 0, 1) := by decide +kernel
theorem dX11_years_38 : decode cX11_years 38 = .ok (.getfield 78, 3) := by decide +kernel
theorem dX11_years_41 : decode cX11_years 41 = .ok (.ldc2_w 270, 3) := by decide +kernel
theorem dX11_years_44 : decode cX11_years 44 = .ok (.lmul, 1) := by decide +kernel
theorem dX11_years_45 : decode cX11_years 45 = .ok (.ldc2_w 272, 3) := by decide +kernel
theorem dX11_years_48 : decode cX11_years 48 = .ok (.ladd, 1) := by decide +kernel
theorem dX11_years_49 : decode cX11_years 49 = .ok (.putfield 78, 3) := by decide +kernel
theorem dX11_years_52 : decode cX11_years 52 = .ok (.aload_n 0, 1) := by decide +kernel
theorem dX11_years_53 : decode cX11_years 53 = .ok (.getfield 78, 3) := by decide +kernel
theorem dX11_years_56 : decode cX11_years 56 = .ok (.bipush 33, 2) := by decide +kernel
theorem dX11_years_58 : decode cX11_years 58 = .ok (.lushr, 1) := by decide +kernel
theorem dX11_years_59 : decode cX11_years 59 = .ok (.ldc2_w 274, 3) := by decide +kernel
theorem dX11_years_62 : decode cX11_years 62 = .ok (.lrem, 1) := by decide +kernel
theorem dX11_years_63 : decode cX11_years 63 = .ok (.l2i, 1) := by decide +kernel
theorem dX11_years_64 : decode cX11_years 64 = .ok (.istore 5, 2) := by decide +kernel
theorem dX11_years_66 : decode cX11_years 66 = .ok (.iload 5, 2) := by decide +kernel
theorem dX11_years_68 : decode cX11_years 68 = .ok (.bipush 20, 2) := by decide +kernel
theorem dX11_years_70 : decode cX11_years 70 = .ok (.idiv, 1) := by decide +kernel
theorem dX11_years_71 : decode cX11_years 71 = .ok (.istore 6, 2) := by decide +kernel
theorem dX11_years_73 : decode cX11_years 73 = .ok (.iload 5, 2) := by decide +kernel
theorem dX11_years_75 : decode cX11_years 75 = .ok (.bipush 20, 2) := by decide +kernel
theorem dX11_years_77 : decode cX11_years 77 = .ok (.irem, 1) := by decide +kernel
theorem dX11_years_78 : decode cX11_years 78 = .ok (.iconst 4, 1) := by decide +kernel
theorem dX11_years_79 : decode cX11_years 79 = .ok (.idiv, 1) := by decide +kernel
theorem dX11_years_80 : decode cX11_years 80 = .ok (.istore 7, 2) := by decide +kernel
theorem dX11_years_82 : decode cX11_years 82 = .ok (.aload_n 0, 1) := by decide +kernel
theorem dX11_years_83 : decode cX11_years 83 = .ok (.getfield 19, 3) := by decide +kernel
theorem dX11_years_86 : decode cX11_years 86 = .ok (.iload 6, 2) := by decide +kernel
theorem dX11_years_88 : decode cX11_years 88 = .ok (.invokevirtual 146, 3) := by decide +kernel
theorem dX11_years_91 : decode cX11_years 91 = .ok (.ifCond .eq 35, 3) := by decide +kernel
theorem dX11_years_94 : decode cX11_years 94 = .ok (.aload_n 0, 1) := by decide +kernel
theorem dX11_years_95 : decode cX11_years 95 = .ok (.getfield 19, 3) := by decide +kernel
theorem dX11_years_98 : decode cX11_years 98 = .ok (.getfield 110, 3) := by decide +kernel
theorem dX11_years_101 : decode cX11_years 101 = .ok (.iload 7, 2) := by decide +kernel
theorem dX11_years_103 : decode cX11_years 103 = .ok (.invokevirtual 276, 3) := by decide +kernel
theorem dX11_years_106 : decode cX11_years 106 = .ok (.ifCond .eq 20, 3) := by decide +kernel
theorem dX11_years_109 : decode cX11_years 109 = .ok (.aload_n 0, 1) := by decide +kernel
theorem dX11_years_110 : decode cX11_years 110 = .ok (.getfield 19, 3) := by decide +kernel
theorem dX11_years_113 : decode cX11_years 113 = .ok (.iload 6, 2) := by decide +kernel
theorem dX11_years_115 : decode cX11_years 115 = .ok (.iload_n 2, 1) := by decide +kernel
theorem dX11_years_116 : decode cX11_years 116 = .ok (.iload 7, 2) := by decide +kernel
theorem dX11_years_118 : decode cX11_years 118 = .ok (.iload 5, 2) := by decide +kernel
theorem dX11_years_120 : decode cX11_years 120 = .ok (.iconst 4, 1) := by decide +kernel
theorem dX11_years_121 : decode cX11_years 121 = .ok (.irem, 1) := by decide +kernel
theorem dX11_years_122 : decode cX11_years 122 = .ok (.invokevirtual 227, 3) := by decide +kernel
theorem dX11_years_125 : decode cX11_years 125 = .ok (.istore_n 2, 1) := by decide +kernel
theorem dX11_years_126 : decode cX11_years 126 = .ok (.iload_n 3, 1) := by decide +kernel
theorem dX11_years_127 : decode cX11_years 127 = .ok (.aload_n 0, 1) := by decide +kernel
theorem dX11_years_128 : decode cX11_years 128 = .ok (.getfield 19, 3) := by decide +kernel
theorem dX11_years_131 : decode cX11_years 131 = .ok (.iload_n 2, 1) := by decide +kernel
theorem dX11_years_132 : decode cX11_years 132 = .ok (.invokevirtual 131, 3) := by decide +kernel
theorem dX11_years_135 : decode cX11_years 135 = .ok (.iadd, 1) := by decide +kernel
theorem dX11_years_136 : decode cX11_years 136 = .ok (.istore_n 3, 1) := by decide +kernel
theorem dX11_years_137 : decode cX11_years 137 = .ok (.iinc 4 1, 3) := by decide +kernel
theorem dX11_years_140 : decode cX11_years 140 = .ok (.goto (-110), 3) := by decide +kernel
theorem dX11_years_143 : decode cX11_years 143 = .ok (.iload_n 3, 1) := by decide +kernel
theorem dX11_years_144 : decode cX11_years 144 = .ok (.ireturn, 1) := by decide +kernel
theorem dX11_keep_0 : decode cX11_keep 0 = .ok (.iload_n 1, 1) := by decide +kernel
theorem dX11_keep_1 : decode cX11_keep 1 = .ok (.ifCond .lt 8, 3) := by decide +kernel
theorem dX11_keep_4 : decode cX11_keep 4 = .ok (.iload_n 1, 1) := by decide +kernel
theorem dX11_keep_5 : decode cX11_keep 5 = .ok (.iconst 2, 1) := by decide +kernel
theorem dX11_keep_6 : decode cX11_keep 6 = .ok (.if_icmp .lt 5, 3) := by decide +kernel
theorem dX11_keep_9 : decode cX11_keep 9 = .ok (.iconst (-1), 1) := by decide +kernel
theorem dX11_keep_10 : decode cX11_keep 10 = .ok (.ireturn, 1) := by decide +kernel
theorem dX11_keep_11 : decode cX11_keep 11 = .ok (.aload_n 0, 1) := by decide +kernel
theorem dX11_keep_12 : decode cX11_keep 12 = .ok (.getfield 35, 3) := by decide +kernel
theorem dX11_keep_15 : decode cX11_keep 15 = .ok (.iload_n 1, 1) := by decide +kernel
theorem dX11_keep_16 : decode cX11_keep 16 = .ok (.aload_n 0, 1) := by decide +kernel
theorem dX11_keep_17 : decode cX11_keep 17 = .ok (.getfield 19, 3) := by decide +kernel
theorem dX11_keep_20 : decode cX11_keep 20 = .ok (.getfield 106, 3) := by decide +kernel
theorem dX11_keep_23 : decode cX11_keep 23 = .ok (.invokevirtual 279, 3) := by decide +kernel
theorem dX11_keep_26 : decode cX11_keep 26 = .ok (.aload_n 0, 1) := by decide +kernel
theorem dX11_keep_27 : decode cX11_keep 27 = .ok (.dup, 1) := by decide +kernel
theorem dX11_keep_28 : decode cX11_keep 28 = .ok (.getfield 74, 3) := by decide +kernel
theorem dX11_keep_31 : decode cX11_keep 31 = .ok (.iconst 1, 1) := by decide +kernel
theorem dX11_keep_32 : decode cX11_keep 32 = .ok (.iload_n 1, 1) := by decide +kernel
theorem dX11_keep_33 : decode cX11_keep 33 = .ok (.ishl, 1) := by decide +kernel
theorem dX11_keep_34 : decode cX11_keep 34 = .ok (.ior, 1) := by decide +kernel
theorem dX11_keep_35 : decode cX11_keep 35 = .ok (.putfield 74, 3) := by decide +kernel
theorem dX11_keep_38 : decode cX11_keep 38 = .ok (.aload_n 0, 1) := by decide +kernel
theorem dX11_keep_39 : decode cX11_keep 39 = .ok (.getfield 19, 3) := by decide +kernel
theorem dX11_keep_42 : decode cX11_keep 42 = .ok (.getfield 106, 3) := by decide +kernel
theorem dX11_keep_45 : decode cX11_keep 45 = .ok (.invokevirtual 134, 3) := by decide +kernel
theorem dX11_keep_48 : decode cX11_keep 48 = .ok (.ireturn, 1) := by decide +kernel
theorem dX11_again_0 : decode cX11_again 0 = .ok (.iload_n 1, 1) := by decide +kernel
theorem dX11_again_1 : decode cX11_again 1 = .ok (.ifCond .lt 8, 3) := by decide +kernel
theorem dX11_again_4 : decode cX11_again 4 = .ok (.iload_n 1, 1) := by decide +kernel
theorem dX11_again_5 : decode cX11_again 5 = .ok (.iconst 2, 1) := by decide +kernel
theorem dX11_again_6 : decode cX11_again 6 = .ok (.if_icmp .lt 5, 3) := by decide +kernel
theorem dX11_again_9 : decode cX11_again 9 = .ok (.iconst (-1), 1) := by decide +kernel
theorem dX11_again_10 : decode cX11_again 10 = .ok (.ireturn, 1) := by decide +kernel
theorem dX11_again_11 : decode cX11_again 11 = .ok (.aload_n 0, 1) := by decide +kernel
theorem dX11_again_12 : decode cX11_again 12 = .ok (.getfield 74, 3) := by decide +kernel
theorem dX11_again_15 : decode cX11_again 15 = .ok (.iload_n 1, 1) := by decide +kernel
theorem dX11_again_16 : decode cX11_again 16 = .ok (.ishr, 1) := by decide +kernel
theorem dX11_again_17 : decode cX11_again 17 = .ok (.iconst 1, 1) := by decide +kernel
theorem dX11_again_18 : decode cX11_again 18 = .ok (.iand, 1) := by decide +kernel
theorem dX11_again_19 : decode cX11_again 19 = .ok (.ifCond .ne 6, 3) := by decide +kernel
theorem dX11_again_22 : decode cX11_again 22 = .ok (.bipush (-3), 2) := by decide +kernel
theorem dX11_again_24 : decode cX11_again 24 = .ok (.ireturn, 1) := by decide +kernel
theorem dX11_again_25 : decode cX11_again 25 = .ok (.aload_n 0, 1) := by decide +kernel
theorem dX11_again_26 : decode cX11_again 26 = .ok (.getfield 35, 3) := by decide +kernel
theorem dX11_again_29 : decode cX11_again 29 = .ok (.iload_n 1, 1) := by decide +kernel
theorem dX11_again_30 : decode cX11_again 30 = .ok (.aload_n 0, 1) := by decide +kernel
theorem dX11_again_31 : decode cX11_again 31 = .ok (.getfield 19, 3) := by decide +kernel
theorem dX11_again_34 : decode cX11_again 34 = .ok (.getfield 106, 3) := by decide +kernel
theorem dX11_again_37 : decode cX11_again 37 = .ok (.invokevirtual 283, 3) := by decide +kernel
theorem dX11_again_40 : decode cX11_again 40 = .ok (.aload_n 0, 1) := by decide +kernel
theorem dX11_again_41 : decode cX11_again 41 = .ok (.getfield 26, 3) := by decide +kernel
theorem dX11_again_44 : decode cX11_again 44 = .ok (.invokevirtual 97, 3) := by decide +kernel
theorem dX11_again_47 : decode cX11_again 47 = .ok (.aload_n 0, 1) := by decide +kernel
theorem dX11_again_48 : decode cX11_again 48 = .ok (.getfield 19, 3) := by decide +kernel
theorem dX11_again_51 : decode cX11_again 51 = .ok (.getfield 106, 3) := by decide +kernel
theorem dX11_again_54 : decode cX11_again 54 = .ok (.invokevirtual 134, 3) := by decide +kernel
theorem dX11_again_57 : decode cX11_again 57 = .ok (.ireturn, 1) := by decide +kernel
theorem dJ6_bitCount_0f7a4_0 : decode cJ6_bitCount_0f7a4 0 = .ok (.iload_n 0, 1) := by decide +kernel
theorem dJ6_bitCount_0f7a4_1 : decode cJ6_bitCount_0f7a4 1 = .ok (.iload_n 0, 1) := by decide +kernel
theorem dJ6_bitCount_0f7a4_2 : decode cJ6_bitCount_0f7a4 2 = .ok (.iconst 1, 1) := by decide +kernel
theorem dJ6_bitCount_0f7a4_3 : decode cJ6_bitCount_0f7a4 3 = .ok (.iushr, 1) := by decide +kernel
theorem dJ6_bitCount_0f7a4_4 : decode cJ6_bitCount_0f7a4 4 = .ok (.ldc_w 265, 3) := by decide +kernel
theorem dJ6_bitCount_0f7a4_7 : decode cJ6_bitCount_0f7a4 7 = .ok (.iand, 1) := by decide +kernel
theorem dJ6_bitCount_0f7a4_8 : decode cJ6_bitCount_0f7a4 8 = .ok (.isub, 1) := by decide +kernel
theorem dJ6_bitCount_0f7a4_9 : decode cJ6_bitCount_0f7a4 9 = .ok (.istore_n 0, 1) := by decide +kernel
theorem dJ6_bitCount_0f7a4_10 : decode cJ6_bitCount_0f7a4 10 = .ok (.iload_n 0, 1) := by decide +kernel
theorem dJ6_bitCount_0f7a4_11 : decode cJ6_bitCount_0f7a4 11 = .ok (.ldc_w 266, 3) := by decide +kernel
theorem dJ6_bitCount_0f7a4_14 : decode cJ6_bitCount_0f7a4 14 = .ok (.iand, 1) := by decide +kernel
theorem dJ6_bitCount_0f7a4_15 : decode cJ6_bitCount_0f7a4 15 = .ok (.iload_n 0, 1) := by decide +kernel
theorem dJ6_bitCount_0f7a4_16 : decode cJ6_bitCount_0f7a4 16 = .ok (.iconst 2, 1) := by decide +kernel
theorem dJ6_bitCount_0f7a4_17 : decode cJ6_bitCount_0f7a4 17 = .ok (.iushr, 1) := by decide +kernel
theorem dJ6_bitCount_0f7a4_18 : decode cJ6_bitCount_0f7a4 18 = .ok (.ldc_w 266, 3) := by decide +kernel
theorem dJ6_bitCount_0f7a4_21 : decode cJ6_bitCount_0f7a4 21 = .ok (.iand, 1) := by decide +kernel
theorem dJ6_bitCount_0f7a4_22 : decode cJ6_bitCount_0f7a4 22 = .ok (.iadd, 1) := by decide +kernel
theorem dJ6_bitCount_0f7a4_23 : decode cJ6_bitCount_0f7a4 23 = .ok (.istore_n 0, 1) := by decide +kernel
theorem dJ6_bitCount_0f7a4_24 : decode cJ6_bitCount_0f7a4 24 = .ok (.iload_n 0, 1) := by decide +kernel
theorem dJ6_bitCount_0f7a4_25 : decode cJ6_bitCount_0f7a4 25 = .ok (.iload_n 0, 1) := by decide +kernel
theorem dJ6_bitCount_0f7a4_26 : decode cJ6_bitCount_0f7a4 26 = .ok (.iconst 4, 1) := by decide +kernel
theorem dJ6_bitCount_0f7a4_27 : decode cJ6_bitCount_0f7a4 27 = .ok (.iushr, 1) := by decide +kernel
theorem dJ6_bitCount_0f7a4_28 : decode cJ6_bitCount_0f7a4 28 = .ok (.iadd, 1) := by decide +kernel
theorem dJ6_bitCount_0f7a4_29 : decode cJ6_bitCount_0f7a4 29 = .ok (.ldc_w 267, 3) := by decide +kernel
theorem dJ6_bitCount_0f7a4_32 : decode cJ6_bitCount_0f7a4 32 = .ok (.iand, 1) := by decide +kernel
theorem dJ6_bitCount_0f7a4_33 : decode cJ6_bitCount_0f7a4 33 = .ok (.istore_n 0, 1) := by decide +kernel
theorem dJ6_bitCount_0f7a4_34 : decode cJ6_bitCount_0f7a4 34 = .ok (.iload_n 0, 1) := by decide +kernel
theorem dJ6_bitCount_0f7a4_35 : decode cJ6_bitCount_0f7a4 35 = .ok (.iload_n 0, 1) := by decide +kernel
theorem dJ6_bitCount_0f7a4_36 : decode cJ6_bitCount_0f7a4 36 = .ok (.bipush 8, 2) := by decide +kernel
theorem dJ6_bitCount_0f7a4_38 : decode cJ6_bitCount_0f7a4 38 = .ok (.iushr, 1) := by decide +kernel
theorem dJ6_bitCount_0f7a4_39 : decode cJ6_bitCount_0f7a4 39 = .ok (.iadd, 1) := by decide +kernel
theorem dJ6_bitCount_0f7a4_40 : decode cJ6_bitCount_0f7a4 40 = .ok (.istore_n 0, 1) := by decide +kernel
theorem dJ6_bitCount_0f7a4_41 : decode cJ6_bitCount_0f7a4 41 = .ok (.iload_n 0, 1) := by decide +kernel
theorem dJ6_bitCount_0f7a4_42 : decode cJ6_bitCount_0f7a4 42 = .ok (.iload_n 0, 1) := by decide +kernel
theorem dJ6_bitCount_0f7a4_43 : decode cJ6_bitCount_0f7a4 43 = .ok (.bipush 16, 2) := by decide +kernel
theorem dJ6_bitCount_0f7a4_45 : decode cJ6_bitCount_0f7a4 45 = .ok (.iushr, 1) := by decide +kernel
theorem dJ6_bitCount_0f7a4_46 : decode cJ6_bitCount_0f7a4 46 = .ok (.iadd, 1) := by decide +kernel
theorem dJ6_bitCount_0f7a4_47 : decode cJ6_bitCount_0f7a4 47 = .ok (.istore_n 0, 1) := by decide +kernel
theorem dJ6_bitCount_0f7a4_48 : decode cJ6_bitCount_0f7a4 48 = .ok (.iload_n 0, 1) := by decide +kernel
theorem dJ6_bitCount_0f7a4_49 : decode cJ6_bitCount_0f7a4 49 = .ok (.bipush 63, 2) := by decide +kernel
theorem dJ6_bitCount_0f7a4_51 : decode cJ6_bitCount_0f7a4 51 = .ok (.iand, 1) := by decide +kernel
theorem dJ6_bitCount_0f7a4_52 : decode cJ6_bitCount_0f7a4 52 = .ok (.ireturn, 1) := by decide +kernel
theorem dJ9_max_7cf53_0 : decode cJ9_max_7cf53 0 = .ok (.iload_n 0, 1) := by decide +kernel
theorem dJ9_max_7cf53_1 : decode cJ9_max_7cf53 1 = .ok (.iload_n 1, 1) := by decide +kernel
theorem dJ9_max_7cf53_2 : decode cJ9_max_7cf53 2 = .ok (.if_icmp .lt 7, 3) := by decide +kernel
theorem dJ9_max_7cf53_5 : decode cJ9_max_7cf53 5 = .ok (.iload_n 0, 1) := by decide +kernel
theorem dJ9_max_7cf53_6 : decode cJ9_max_7cf53 6 = .ok (.goto 4, 3) := by decide +kernel
theorem dJ9_max_7cf53_9 : decode cJ9_max_7cf53 9 = .ok (.iload_n 1, 1) := by decide +kernel
theorem dJ9_max_7cf53_10 : decode cJ9_max_7cf53 10 = .ok (.ireturn, 1) := by decide +kernel
theorem dJ9_min_7cf53_0 : decode cJ9_min_7cf53 0 = .ok (.iload_n 0, 1) := by decide +kernel
theorem dJ9_min_7cf53_1 : decode cJ9_min_7cf53 1 = .ok (.iload_n 1, 1) := by decide +kernel
theorem dJ9_min_7cf53_2 : decode cJ9_min_7cf53 2 = .ok (.if_icmp .gt 7, 3) := by decide +kernel
theorem dJ9_min_7cf53_5 : decode cJ9_min_7cf53 5 = .ok (.iload_n 0, 1) := by decide +kernel
theorem dJ9_min_7cf53_6 : decode cJ9_min_7cf53 6 = .ok (.goto 4, 3) := by decide +kernel
theorem dJ9_min_7cf53_9 : decode cJ9_min_7cf53 9 = .ok (.iload_n 1, 1) := by decide +kernel
theorem dJ9_min_7cf53_10 : decode cJ9_min_7cf53 10 = .ok (.ireturn, 1) := by decide +kernel
end
section
theorem dX12_init_0 : decode cX12_init 0 = .ok (.aload_n 0, 1) := by decide +kernel
theorem dX12_init_1 : decode cX12_init 1 = .ok (.invokespecial 1, 3) := by decide +kernel
theorem dX12_init_4 : decode cX12_init 4 = .ok (.aload_n 0, 1) := by decide +kernel
theorem dX12_init_5 : decode cX12_init 5 = .ok (.bipush 40, 2) := by decide +kernel
theorem dX12_init_7 : decode cX12_init 7 = .ok (.newarray .int, 2) := by decide +kernel
theorem dX12_init_9 : decode cX12_init 9 = .ok (.putfield 7, 3) := by decide +kernel
theorem dX12_init_12 : decode cX12_init 12 = .ok (.aload_n 0, 1) := by decide +kernel
theorem dX12_init_13 : decode cX12_init 13 = .ok (.iconst 1, 1) := by decide +kernel
theorem dX12_init_14 : decode cX12_init 14 = .ok (.putfield 13, 3) := by decide +kernel
theorem dX12_init_17 : decode cX12_init 17 = .ok (.aload_n 0, 1) := by decide +kernel
theorem dX12_init_18 : decode cX12_init 18 = .ok (.iconst 4, 1) := by decide +kernel
theorem dX12_init_19 : decode cX12_init 19 = .ok (.newarray .int, 2) := by decide +kernel
theorem dX12_init_21 : decode cX12_init 21 = .ok (.putfield 17, 3) := by decide +kernel
theorem dX12_init_24 : decode cX12_init 24 = .ok (.aload_n 0, 1) := by decide +kernel
theorem dX12_init_25 : decode cX12_init 25 = .ok (.iconst 4, 1) := by decide +kernel
theorem dX12_init_26 : decode cX12_init 26 = .ok (.newarray .int, 2) := by decide +kernel
theorem dX12_init_28 : decode cX12_init 28 = .ok (.putfield 20, 3) := by decide +kernel
theorem dX12_init_31 : decode cX12_init 31 = .ok (.aload_n 0, 1) := by decide +kernel
theorem dX12_init_32 : decode cX12_init 32 = .ok (.iconst 3, 1) := by decide +kernel
theorem dX12_init_33 : decode cX12_init 33 = .ok (.newarray .int, 2) := by decide +kernel
theorem dX12_init_35 : decode cX12_init 35 = .ok (.putfield 23, 3) := by decide +kernel
theorem dX12_init_38 : decode cX12_init 38 = .ok (.aload_n 0, 1) := by decide +kernel
theorem dX12_init_39 : decode cX12_init 39 = .ok (.iconst 4, 1) := by decide +kernel
theorem dX12_init_40 : decode cX12_init 40 = .ok (.newarray .int, 2) := by decide +kernel
theorem dX12_init_42 : decode cX12_init 42 = .ok (.putfield 26, 3) := by decide +kernel
theorem dX12_init_45 : decode cX12_init 45 = .ok (.aload_n 0, 1) := by decide +kernel
theorem dX12_init_46 : decode cX12_init 46 = .ok (.iconst 4, 1) := by decide +kernel
theorem dX12_init_47 : decode cX12_init 47 = .ok (.newarray .int, 2) := by decide +kernel
theorem dX12_init_49 : decode cX12_init 49 = .ok (.putfield 29, 3) := by decide +kernel
theorem dX12_init_52 : decode cX12_init 52 = .ok (.aload_n 0, 1) := by decide +kernel
theorem dX12_init_53 : decode cX12_init 53 = .ok (.bipush 9, 2) := by decide +kernel
theorem dX12_init_55 : decode cX12_init 55 = .ok (.newarray .int, 2) := by decide +kernel
theorem dX12_init_57 : decode cX12_init 57 = .ok (.putfield 32, 3) := by decide +kernel
theorem dX12_init_60 : decode cX12_init 60 = .ok (.aload_n 0, 1) := by decide +kernel
theorem dX12_init_61 : decode cX12_init 61 = .ok (.bipush 9, 2) := by decide +kernel
theorem dX12_init_63 : decode cX12_init 63 = .ok (.newarray .int, 2) := by decide +kernel
theorem dX12_init_65 : decode cX12_init 65 = .ok (.putfield 35, 3) := by decide +kernel
theorem dX12_init_68 : decode cX12_init 68 = .ok (.aload_n 0, 1) := by decide +kernel
theorem dX12_init_69 : decode cX12_init 69 = .ok (.bipush 126, 2) := by decide +kernel
theorem dX12_init_71 : decode cX12_init 71 = .ok (.newarray .int, 2) := by decide +kernel
theorem dX12_init_73 : decode cX12_init 73 = .ok (.putfield 38, 3) := by decide +kernel
theorem dX12_init_76 : decode cX12_init 76 = .ok (.aload_n 0, 1) := by decide +kernel
theorem dX12_init_77 : decode cX12_init 77 = .ok (.bipush 18, 2) := by decide +kernel
theorem dX12_init_79 : decode cX12_init 79 = .ok (.newarray .int, 2) := by decide +kernel
theorem dX12_init_81 : decode cX12_init 81 = .ok (.putfield 41, 3) := by decide +kernel
theorem dX12_init_84 : decode cX12_init 84 = .ok (.aload_n 0, 1) := by decide +kernel
theorem dX12_init_85 : decode cX12_init 85 = .ok (.iconst 2, 1) := by decide +kernel
theorem dX12_init_86 : decode cX12_init 86 = .ok (.newarray .boolean, 2) := by decide +kernel
theorem dX12_init_88 : decode cX12_init 88 = .ok (.putfield 44, 3) := by decide +kernel
theorem dX12_init_91 : decode cX12_init 91 = .ok (.aload_n 0, 1) := by decide +kernel
theorem dX12_init_92 : decode cX12_init 92 = .ok (.sipush 1024, 3) := by decide +kernel
theorem dX12_init_95 : decode cX12_init 95 = .ok (.newarray .int, 2) := by decide +kernel
theorem dX12_init_97 : decode cX12_init 97 = .ok (.putfield 48, 3) := by decide +kernel
theorem dX12_init_100 : decode cX12_init 100 = .ok (.aload_n 0, 1) := by decide +kernel
theorem dX12_init_101 : decode cX12_init 101 = .ok (.bipush 8, 2) := by decide +kernel
theorem dX12_init_103 : decode cX12_init 103 = .ok (.newarray .int, 2) := by decide +kernel
theorem dX12_init_105 : decode cX12_init 105 = .ok (.putfield 51, 3) := by decide +kernel
theorem dX12_init_108 : decode cX12_init 108 = .ok (.aload_n 0, 1) := by decide +kernel
theorem dX12_init_109 : decode cX12_init 109 = .ok (.sipush 1026, 3) := by decide +kernel
theorem dX12_init_112 : decode cX12_init 112 = .ok (.newarray .int, 2) := by decide +kernel
theorem dX12_init_114 : decode cX12_init 114 = .ok (.putfield 54, 3) := by decide +kernel
theorem dX12_init_117 : decode cX12_init 117 = .ok (.return_, 1) := by decide +kernel
theorem dX12_in_0 : decode cX12_in 0 = .ok (.lload_n 0, 1) := by decide +kernel
theorem dX12_in_1 : decode cX12_in 1 = .ok (.lload_n 2, 1) := by decide +kernel
theorem dX12_in_2 : decode cX12_in 2 = .ok (.lcmp, 1) := by decide +kernel
theorem dX12_in_3 : decode cX12_in 3 = .ok (.ifCond .lt 14, 3) := by decide +kernel
theorem dX12_in_6 : decode cX12_in 6 = .ok (.lload_n 0, 1) := by decide +kernel
theorem dX12_in_7 : decode cX12_in 7 = .ok (.lload 4, 2) := by decide +kernel
theorem dX12_in_9 : decode cX12_in 9 = .ok (.lcmp, 1) := by decide +kernel
theorem dX12_in_10 : decode cX12_in 10 = .ok (.ifCond .gt 7, 3) := by decide +kernel
theorem dX12_in_13 : decode cX12_in 13 = .ok (.iconst 1, 1) := by decide +kernel
theorem dX12_in_14 : decode cX12_in 14 = .ok (.goto 4, 3) := by decide +kernel
theorem dX12_in_17 : decode cX12_in 17 = .ok (.iconst 0, 1) := by decide +kernel
theorem dX12_in_18 : decode cX12_in 18 = .ok (.ireturn, 1) := by decide +kernel
theorem dX12_has_0 : decode cX12_has 0 = .ok (.iload_n 0, 1) := by decide +kernel
theorem dX12_has_1 : decode cX12_has 1 = .ok (.iload_n 1, 1) := by decide +kernel
theorem dX12_has_2 : decode cX12_has 2 = .ok (.ishr, 1) := by decide +kernel
theorem dX12_has_3 : decode cX12_has 3 = .ok (.iconst 1, 1) := by decide +kernel
theorem dX12_has_4 : decode cX12_has 4 = .ok (.iand, 1) := by decide +kernel
theorem dX12_has_5 : decode cX12_has 5 = .ok (.iconst 1, 1) := by decide +kernel
theorem dX12_has_6 : decode cX12_has 6 = .ok (.if_icmp .ne 7, 3) := by decide +kernel
theorem dX12_has_9 : decode cX12_has 9 = .ok (.iconst 1, 1) := by decide +kernel
theorem dX12_has_10 : decode cX12_has 10 = .ok (.goto 4, 3) := by decide +kernel
theorem dX12_has_13 : decode cX12_has 13 = .ok (.iconst 0, 1) := by decide +kernel
theorem dX12_has_14 : decode cX12_has 14 = .ok (.ireturn, 1) := by decide +kernel
theorem dX12_power_0 : decode cX12_power 0 = .ok (.iconst 1, 1) := by decide +kernel
theorem dX12_power_1 : decode cX12_power 1 = .ok (.istore_n 2, 1) := by decide +kernel
theorem dX12_power_2 : decode cX12_power 2 = .ok (.iconst 0, 1) := by decide +kernel
theorem dX12_power_3 : decode cX12_power 3 = .ok (.istore_n 3, 1) := by decide +kernel
theorem dX12_power_4 : decode cX12_power 4 = .ok (.iload_n 3, 1) := by decide +kernel
theorem dX12_power_5 : decode cX12_power 5 = .ok (.iload_n 1, 1) := by decide +kernel
theorem dX12_power_6 : decode cX12_power 6 = .ok (.if_icmp .ge 13, 3) := by decide +kernel
theorem dX12_power_9 : decode cX12_power 9 = .ok (.iload_n 2, 1) := by decide +kernel
theorem dX12_power_10 : decode cX12_power 10 = .ok (.iload_n 0, 1) := by decide +kernel
theorem dX12_power_11 : decode cX12_power 11 = .ok (.imul, 1) := by decide +kernel
theorem dX12_power_12 : decode cX12_power 12 = .ok (.istore_n 2, 1) := by decide +kernel
theorem dX12_power_13 : decode cX12_power 13 = .ok (.iinc 3 1, 3) := by decide +kernel
theorem dX12_power_16 : decode cX12_power 16 = .ok (.goto (-12), 3) := by decide +kernel
theorem dX12_power_19 : decode cX12_power 19 = .ok (.iload_n 2, 1) := by decide +kernel
theorem dX12_power_20 : decode cX12_power 20 = .ok (.ireturn, 1) := by decide +kernel
theorem dX12_thousand_0 : decode cX12_thousand 0 = .ok (.lconst 1, 1) := by decide +kernel
theorem dX12_thousand_1 : decode cX12_thousand 1 = .ok (.lstore_n 1, 1) := by decide +kernel
theorem dX12_thousand_2 : decode cX12_thousand 2 = .ok (.iconst 0, 1) := by decide +kernel
theorem dX12_thousand_3 : decode cX12_thousand 3 = .ok (.istore_n 3, 1) := by decide +kernel
theorem dX12_thousand_4 : decode cX12_thousand 4 = .ok (.iload_n 3, 1) := by decide +kernel
theorem dX12_thousand_5 : decode cX12_thousand 5 = .ok (.iload_n 0, 1) := by decide +kernel
theorem dX12_thousand_6 : decode cX12_thousand 6 = .ok (.if_icmp .ge 15, 3) := by decide +kernel
theorem dX12_thousand_9 : decode cX12_thousand 9 = .ok (.lload_n 1, 1) := by decide +kernel
theorem dX12_thousand_10 : decode cX12_thousand 10 = .ok (.ldc2_w 60, 3) := by decide +kernel
theorem dX12_thousand_13 : decode cX12_thousand 13 = .ok (.lmul, 1) := by decide +kernel
theorem dX12_thousand_14 : decode cX12_thousand 14 = .ok (.lstore_n 1, 1) := by decide +kernel
theorem dX12_thousand_15 : decode cX12_thousand 15 = .ok (.iinc 3 1, 3) := by decide +kernel
theorem dX12_thousand_18 : decode cX12_thousand 18 = .ok (.goto (-14), 3) := by decide +kernel
theorem dX12_thousand_21 : decode cX12_thousand 21 = .ok (.lload_n 1, 1) := by decide +kernel
theorem dX12_thousand_22 : decode cX12_thousand 22 = .ok (.lreturn, 1) := by decide +kernel
theorem dX12_noCompositor_0 : decode cX12_noCompositor 0 = .ok (.iload_n 1, 1) := by decide +kernel
theorem dX12_noCompositor_1 : decode cX12_noCompositor 1 = .ok (.i2l, 1) := by decide +kernel
theorem dX12_noCompositor_2 : decode cX12_noCompositor 2 = .ok (.lconst 0, 1) := by decide +kernel
theorem dX12_noCompositor_3 : decode cX12_noCompositor 3 = .ok (.aload_n 0, 1) := by decide +kernel
theorem dX12_noCompositor_4 : decode cX12_noCompositor 4 = .ok (.getfield 62, 3) := by decide +kernel
theorem dX12_noCompositor_7 : decode cX12_noCompositor 7 = .ok (.iconst 1, 1) := by decide +kernel
theorem dX12_noCompositor_8 : decode cX12_noCompositor 8 = .ok (.isub, 1) := by decide +kernel
theorem dX12_noCompositor_9 : decode cX12_noCompositor 9 = .ok (.i2l, 1) := by decide +kernel
theorem dX12_noCompositor_10 : decode cX12_noCompositor 10 = .ok (.invokestatic 65, 3) := by decide +kernel
theorem dX12_noCompositor_13 : decode cX12_noCompositor 13 = .ok (.ifCond .ne 7, 3) := by decide +kernel
theorem dX12_noCompositor_16 : decode cX12_noCompositor 16 = .ok (.iconst 1, 1) := by decide +kernel
theorem dX12_noCompositor_17 : decode cX12_noCompositor 17 = .ok (.goto 4, 3) := by decide +kernel
theorem dX12_noCompositor_20 : decode cX12_noCompositor 20 = .ok (.iconst 0, 1) := by decide +kernel
theorem dX12_noCompositor_21 : decode cX12_noCompositor 21 = .ok (.ireturn, 1) := by decide +kernel
theorem dX12_noReader_0 : decode cX12_noReader 0 = .ok (.iload_n 1, 1) := by decide +kernel
theorem dX12_noReader_1 : decode cX12_noReader 1 = .ok (.i2l, 1) := by decide +kernel
theorem dX12_noReader_2 : decode cX12_noReader 2 = .ok (.lconst 0, 1) := by decide +kernel
theorem dX12_noReader_3 : decode cX12_noReader 3 = .ok (.aload_n 0, 1) := by decide +kernel
theorem dX12_noReader_4 : decode cX12_noReader 4 = .ok (.getfield 69, 3) := by decide +kernel
theorem dX12_noReader_7 : decode cX12_noReader 7 = .ok (.iconst 1, 1) := by decide +kernel
theorem dX12_noReader_8 : decode cX12_noReader 8 = .ok (.isub, 1) := by decide +kernel
theorem dX12_noReader_9 : decode cX12_noReader 9 = .ok (.i2l, 1) := by decide +kernel
theorem dX12_noReader_10 : decode cX12_noReader 10 = .ok (.invokestatic 65, 3) := by decide +kernel
theorem dX12_noReader_13 : decode cX12_noReader 13 = .ok (.ifCond .ne 7, 3) := by decide +kernel
theorem dX12_noReader_16 : decode cX12_noReader 16 = .ok (.iconst 1, 1) := by decide +kernel
theorem dX12_noReader_17 : decode cX12_noReader 17 = .ok (.goto 4, 3) := by decide +kernel
theorem dX12_noReader_20 : decode cX12_noReader 20 = .ok (.iconst 0, 1) := by decide +kernel
theorem dX12_noReader_21 : decode cX12_noReader 21 = .ok (.ireturn, 1) := by decide +kernel
theorem dX12_noPlace_0 : decode cX12_noPlace 0 = .ok (.iload_n 1, 1) := by decide +kernel
theorem dX12_noPlace_1 : decode cX12_noPlace 1 = .ok (.i2l, 1) := by decide +kernel
theorem dX12_noPlace_2 : decode cX12_noPlace 2 = .ok (.lconst 0, 1) := by decide +kernel
theorem dX12_noPlace_3 : decode cX12_noPlace 3 = .ok (.aload_n 0, 1) := by decide +kernel
theorem dX12_noPlace_4 : decode cX12_noPlace 4 = .ok (.getfield 13, 3) := by decide +kernel
theorem dX12_noPlace_7 : decode cX12_noPlace 7 = .ok (.iconst 1, 1) := by decide +kernel
theorem dX12_noPlace_8 : decode cX12_noPlace 8 = .ok (.isub, 1) := by decide +kernel
theorem dX12_noPlace_9 : decode cX12_noPlace 9 = .ok (.i2l, 1) := by decide +kernel
theorem dX12_noPlace_10 : decode cX12_noPlace 10 = .ok (.invokestatic 65, 3) := by decide +kernel
theorem dX12_noPlace_13 : decode cX12_noPlace 13 = .ok (.ifCond .ne 7, 3) := by decide +kernel
theorem dX12_noPlace_16 : decode cX12_noPlace 16 = .ok (.iconst 1, 1) := by decide +kernel
theorem dX12_noPlace_17 : decode cX12_noPlace 17 = .ok (.goto 4, 3) := by decide +kernel
theorem dX12_noPlace_20 : decode cX12_noPlace 20 = .ok (.iconst 0, 1) := by decide +kernel
theorem dX12_noPlace_21 : decode cX12_noPlace 21 = .ok (.ireturn, 1) := by decide +kernel
theorem dX12_noLetter_0 : decode cX12_noLetter 0 = .ok (.iload_n 0, 1) := by decide +kernel
theorem dX12_noLetter_1 : decode cX12_noLetter 1 = .ok (.i2l, 1) := by decide +kernel
theorem dX12_noLetter_2 : decode cX12_noLetter 2 = .ok (.lconst 0, 1) := by decide +kernel
theorem dX12_noLetter_3 : decode cX12_noLetter 3 = .ok (.ldc2_w 72, 3) := by decide +kernel
theorem dX12_noLetter_6 : decode cX12_noLetter 6 = .ok (.invokestatic 65, 3) := by decide +kernel
theorem dX12_noLetter_9 : decode cX12_noLetter 9 = .ok (.ifCond .ne 7, 3) := by decide +kernel
theorem dX12_noLetter_12 : decode cX12_noLetter 12 = .ok (.iconst 1, 1) := by decide +kernel
theorem dX12_noLetter_13 : decode cX12_noLetter 13 = .ok (.goto 4, 3) := by decide +kernel
theorem dX12_noLetter_16 : decode cX12_noLetter 16 = .ok (.iconst 0, 1) := by decide +kernel
theorem dX12_noLetter_17 : decode cX12_noLetter 17 = .ok (.ireturn, 1) := by decide +kernel
theorem dX12_write_0 : decode cX12_write 0 = .ok (.aload_n 0, 1) := by decide +kernel
theorem dX12_write_1 : decode cX12_write 1 = .ok (.iconst 0, 1) := by decide +kernel
theorem dX12_write_2 : decode cX12_write 2 = .ok (.putfield 57, 3) := by decide +kernel
theorem dX12_write_5 : decode cX12_write 5 = .ok (.iload_n 1, 1) := by decide +kernel
theorem dX12_write_6 : decode cX12_write 6 = .ok (.i2l, 1) := by decide +kernel
theorem dX12_write_7 : decode cX12_write 7 = .ok (.lconst 0, 1) := by decide +kernel
theorem dX12_write_8 : decode cX12_write 8 = .ok (.ldc2_w 74, 3) := by decide +kernel
theorem dX12_write_11 : decode cX12_write 11 = .ok (.invokestatic 65, 3) := by decide +kernel
theorem dX12_write_14 : decode cX12_write 14 = .ok (.ifCond .ne 6, 3) := by decide +kernel
theorem dX12_write_17 : decode cX12_write 17 = .ok (.bipush (-2), 2) := by decide +kernel
theorem dX12_write_19 : decode cX12_write 19 = .ok (.ireturn, 1) := by decide +kernel
theorem dX12_write_20 : decode cX12_write 20 = .ok (.aload_n 0, 1) := by decide +kernel
theorem dX12_write_21 : decode cX12_write 21 = .ok (.getfield 76, 3) := by decide +kernel
theorem dX12_write_24 : decode cX12_write 24 = .ok (.bipush 40, 2) := by decide +kernel
theorem dX12_write_26 : decode cX12_write 26 = .ok (.if_icmp .ne 6, 3) := by decide +kernel
theorem dX12_write_29 : decode cX12_write 29 = .ok (.bipush (-4), 2) := by decide +kernel
theorem dX12_write_31 : decode cX12_write 31 = .ok (.ireturn, 1) := by decide +kernel
theorem dX12_write_32 : decode cX12_write 32 = .ok (.aload_n 0, 1) := by decide +kernel
theorem dX12_write_33 : decode cX12_write 33 = .ok (.getfield 7, 3) := by decide +kernel
theorem dX12_write_36 : decode cX12_write 36 = .ok (.aload_n 0, 1) := by decide +kernel
theorem dX12_write_37 : decode cX12_write 37 = .ok (.getfield 76, 3) := by decide +kernel
theorem dX12_write_40 : decode cX12_write 40 = .ok (.iload_n 1, 1) := by decide +kernel
theorem dX12_write_41 : decode cX12_write 41 = .ok (.iastore, 1) := by decide +kernel
theorem dX12_write_42 : decode cX12_write 42 = .ok (.aload_n 0, 1) := by decide +kernel
theorem dX12_write_43 : decode cX12_write 43 = .ok (.dup, 1) := by decide +kernel
theorem dX12_write_44 : decode cX12_write 44 = .ok (.getfield 76, 3) := by decide +kernel
theorem dX12_write_47 : decode cX12_write 47 = .ok (.iconst 1, 1) := by decide +kernel
theorem dX12_write_48 : decode cX12_write 48 = .ok (.iadd, 1) := by decide +kernel
theorem dX12_write_49 : decode cX12_write 49 = .ok (.putfield 76, 3) := by decide +kernel
theorem dX12_write_52 : decode cX12_write 52 = .ok (.aload_n 0, 1) := by decide +kernel
theorem dX12_write_53 : decode cX12_write 53 = .ok (.getfield 76, 3) := by decide +kernel
theorem dX12_write_56 : decode cX12_write 56 = .ok (.ireturn, 1) := by decide +kernel
theorem dX12_wipe_0 : decode cX12_wipe 0 = .ok (.aload_n 0, 1) := by decide +kernel
theorem dX12_wipe_1 : decode cX12_wipe 1 = .ok (.iconst 0, 1) := by decide +kernel
theorem dX12_wipe_2 : decode cX12_wipe 2 = .ok (.putfield 57, 3) := by decide +kernel
theorem dX12_wipe_5 : decode cX12_wipe 5 = .ok (.aload_n 0, 1) := by decide +kernel
theorem dX12_wipe_6 : decode cX12_wipe 6 = .ok (.getfield 76, 3) := by decide +kernel
theorem dX12_wipe_9 : decode cX12_wipe 9 = .ok (.istore_n 1, 1) := by decide +kernel
theorem dX12_wipe_10 : decode cX12_wipe 10 = .ok (.aload_n 0, 1) := by decide +kernel
theorem dX12_wipe_11 : decode cX12_wipe 11 = .ok (.iconst 0, 1) := by decide +kernel
theorem dX12_wipe_12 : decode cX12_wipe 12 = .ok (.putfield 76, 3) := by decide +kernel
theorem dX12_wipe_15 : decode cX12_wipe 15 = .ok (.iload_n 1, 1) := by decide +kernel
theorem dX12_wipe_16 : decode cX12_wipe 16 = .ok (.ireturn, 1) := by decide +kernel
theorem dX12_figure_0 : decode cX12_figure 0 = .ok (.aload_n 0, 1) := by decide +kernel
theorem dX12_figure_1 : decode cX12_figure 1 = .ok (.getfield 79, 3) := by decide +kernel
theorem dX12_figure_4 : decode cX12_figure 4 = .ok (.aload_n 0, 1) := by decide +kernel
theorem dX12_figure_5 : decode cX12_figure 5 = .ok (.getfield 76, 3) := by decide +kernel
theorem dX12_figure_8 : decode cX12_figure 8 = .ok (.if_icmp .eq 26, 3) := by decide +kernel
theorem dX12_figure_11 : decode cX12_figure 11 = .ok (.aload_n 0, 1) := by decide +kernel
theorem dX12_figure_12 : decode cX12_figure 12 = .ok (.getfield 7, 3) := by decide +kernel
theorem dX12_figure_15 : decode cX12_figure 15 = .ok (.aload_n 0, 1) := by decide +kernel
theorem dX12_figure_16 : decode cX12_figure 16 = .ok (.getfield 79, 3) := by decide +kernel
theorem dX12_figure_19 : decode cX12_figure 19 = .ok (.iaload, 1) := by decide +kernel
theorem dX12_figure_20 : decode cX12_figure 20 = .ok (.bipush 48, 2) := by decide +kernel
theorem dX12_figure_22 : decode cX12_figure 22 = .ok (.isub, 1) := by decide +kernel
theorem dX12_figure_23 : decode cX12_figure 23 = .ok (.i2l, 1) := by decide +kernel
theorem dX12_figure_24 : decode cX12_figure 24 = .ok (.iload_n 1, 1) := by decide +kernel
theorem dX12_figure_25 : decode cX12_figure 25 = .ok (.i2l, 1) := by decide +kernel
theorem dX12_figure_26 : decode cX12_figure 26 = .ok (.iload_n 2, 1) := by decide +kernel
theorem dX12_figure_27 : decode cX12_figure 27 = .ok (.i2l, 1) := by decide +kernel
theorem dX12_figure_28 : decode cX12_figure 28 = .ok (.invokestatic 65, 3) := by decide +kernel
theorem dX12_figure_31 : decode cX12_figure 31 = .ok (.ifCond .ne 6, 3) := by decide +kernel
theorem dX12_figure_34 : decode cX12_figure 34 = .ok (.bipush (-9), 2) := by decide +kernel
theorem dX12_figure_36 : decode cX12_figure 36 = .ok (.ireturn, 1) := by decide +kernel
theorem dX12_figure_37 : decode cX12_figure 37 = .ok (.aload_n 0, 1) := by decide +kernel
theorem dX12_figure_38 : decode cX12_figure 38 = .ok (.dup, 1) := by decide +kernel
theorem dX12_figure_39 : decode cX12_figure 39 = .ok (.getfield 79, 3) := by decide +kernel
theorem dX12_figure_42 : decode cX12_figure 42 = .ok (.iconst 1, 1) := by decide +kernel
theorem dX12_figure_43 : decode cX12_figure 43 = .ok (.iadd, 1) := by decide +kernel
theorem dX12_figure_44 : decode cX12_figure 44 = .ok (.putfield 79, 3) := by decide +kernel
theorem dX12_figure_47 : decode cX12_figure 47 = .ok (.aload_n 0, 1) := by decide +kernel
theorem dX12_figure_48 : decode cX12_figure 48 = .ok (.getfield 7, 3) := by decide +kernel
theorem dX12_figure_51 : decode cX12_figure 51 = .ok (.aload_n 0, 1) := by decide +kernel
theorem dX12_figure_52 : decode cX12_figure 52 = .ok (.getfield 79, 3) := by decide +kernel
theorem dX12_figure_55 : decode cX12_figure 55 = .ok (.iconst 1, 1) := by decide +kernel
theorem dX12_figure_56 : decode cX12_figure 56 = .ok (.isub, 1) := by decide +kernel
theorem dX12_figure_57 : decode cX12_figure 57 = .ok (.iaload, 1) := by decide +kernel
theorem dX12_figure_58 : decode cX12_figure 58 = .ok (.bipush 48, 2) := by decide +kernel
theorem dX12_figure_60 : decode cX12_figure 60 = .ok (.isub, 1) := by decide +kernel
theorem dX12_figure_61 : decode cX12_figure 61 = .ok (.ireturn, 1) := by decide +kernel
theorem dX12_isLetter_0 : decode cX12_isLetter 0 = .ok (.aload_n 0, 1) := by decide +kernel
theorem dX12_isLetter_1 : decode cX12_isLetter 1 = .ok (.getfield 79, 3) := by decide +kernel
theorem dX12_isLetter_4 : decode cX12_isLetter 4 = .ok (.aload_n 0, 1) := by decide +kernel
theorem dX12_isLetter_5 : decode cX12_isLetter 5 = .ok (.getfield 76, 3) := by decide +kernel
theorem dX12_isLetter_8 : decode cX12_isLetter 8 = .ok (.if_icmp .ge 30, 3) := by decide +kernel
theorem dX12_isLetter_11 : decode cX12_isLetter 11 = .ok (.aload_n 0, 1) := by decide +kernel
theorem dX12_isLetter_12 : decode cX12_isLetter 12 = .ok (.getfield 7, 3) := by decide +kernel
theorem dX12_isLetter_15 : decode cX12_isLetter 15 = .ok (.aload_n 0, 1) := by decide +kernel
theorem dX12_isLetter_16 : decode cX12_isLetter 16 = .ok (.getfield 79, 3) := by decide +kernel
theorem dX12_isLetter_19 : decode cX12_isLetter 19 = .ok (.iaload, 1) := by decide +kernel
theorem dX12_isLetter_20 : decode cX12_isLetter 20 = .ok (.bipush 97, 2) := by decide +kernel
theorem dX12_isLetter_22 : decode cX12_isLetter 22 = .ok (.isub, 1) := by decide +kernel
theorem dX12_isLetter_23 : decode cX12_isLetter 23 = .ok (.i2l, 1) := by decide +kernel
theorem dX12_isLetter_24 : decode cX12_isLetter 24 = .ok (.lconst 0, 1) := by decide +kernel
theorem dX12_isLetter_25 : decode cX12_isLetter 25 = .ok (.ldc2_w 72, 3) := by decide +kernel
theorem dX12_isLetter_28 : decode cX12_isLetter 28 = .ok (.invokestatic 65, 3) := by decide +kernel
theorem dX12_isLetter_31 : decode cX12_isLetter 31 = .ok (.ifCond .eq 7, 3) := by decide +kernel
theorem dX12_isLetter_34 : decode cX12_isLetter 34 = .ok (.iconst 1, 1) := by decide +kernel
theorem dX12_isLetter_35 : decode cX12_isLetter 35 = .ok (.goto 4, 3) := by decide +kernel
theorem dX12_isLetter_38 : decode cX12_isLetter 38 = .ok (.iconst 0, 1) := by decide +kernel
theorem dX12_isLetter_39 : decode cX12_isLetter 39 = .ok (.ireturn, 1) := by decide +kernel
theorem dX12_readNames_0 : decode cX12_readNames 0 = .ok (.aload_n 0, 1) := by decide +kernel
theorem dX12_readNames_1 : decode cX12_readNames 1 = .ok (.iconst 0, 1) := by decide +kernel
theorem dX12_readNames_2 : decode cX12_readNames 2 = .ok (.putfield 82, 3) := by decide +kernel
theorem dX12_readNames_5 : decode cX12_readNames 5 = .ok (.aload_n 0, 1) := by decide +kernel
theorem dX12_readNames_6 : decode cX12_readNames 6 = .ok (.iconst 0, 1) := by decide +kernel
theorem dX12_readNames_7 : decode cX12_readNames 7 = .ok (.putfield 85, 3) := by decide +kernel
theorem dX12_readNames_10 : decode cX12_readNames 10 = .ok (.aload_n 0, 1) := by decide +kernel
theorem dX12_readNames_11 : decode cX12_readNames 11 = .ok (.getfield 85, 3) := by decide +kernel
theorem dX12_readNames_14 : decode cX12_readNames 14 = .ok (.iconst 5, 1) := by decide +kernel
theorem dX12_readNames_15 : decode cX12_readNames 15 = .ok (.if_icmp .ge 56, 3) := by decide +kernel
theorem dX12_readNames_18 : decode cX12_readNames 18 = .ok (.aload_n 0, 1) := by decide +kernel
theorem dX12_readNames_19 : decode cX12_readNames 19 = .ok (.invokevirtual 88, 3) := by decide +kernel
theorem dX12_readNames_22 : decode cX12_readNames 22 = .ok (.ifCond .eq 49, 3) := by decide +kernel
theorem dX12_readNames_25 : decode cX12_readNames 25 = .ok (.aload_n 0, 1) := by decide +kernel
theorem dX12_readNames_26 : decode cX12_readNames 26 = .ok (.iconst 4, 1) := by decide +kernel
theorem dX12_readNames_27 : decode cX12_readNames 27 = .ok (.aload_n 0, 1) := by decide +kernel
theorem dX12_readNames_28 : decode cX12_readNames 28 = .ok (.getfield 82, 3) := by decide +kernel
theorem dX12_readNames_31 : decode cX12_readNames 31 = .ok (.imul, 1) := by decide +kernel
theorem dX12_readNames_32 : decode cX12_readNames 32 = .ok (.aload_n 0, 1) := by decide +kernel
theorem dX12_readNames_33 : decode cX12_readNames 33 = .ok (.getfield 7, 3) := by decide +kernel
theorem dX12_readNames_36 : decode cX12_readNames 36 = .ok (.aload_n 0, 1) := by decide +kernel
theorem dX12_readNames_37 : decode cX12_readNames 37 = .ok (.getfield 79, 3) := by decide +kernel
theorem dX12_readNames_40 : decode cX12_readNames 40 = .ok (.iaload, 1) := by decide +kernel
theorem dX12_readNames_41 : decode cX12_readNames 41 = .ok (.iadd, 1) := by decide +kernel
theorem dX12_readNames_42 : decode cX12_readNames 42 = .ok (.bipush 97, 2) := by decide +kernel
theorem dX12_readNames_44 : decode cX12_readNames 44 = .ok (.isub, 1) := by decide +kernel
theorem dX12_readNames_45 : decode cX12_readNames 45 = .ok (.putfield 82, 3) := by decide +kernel
theorem dX12_readNames_48 : decode cX12_readNames 48 = .ok (.aload_n 0, 1) := by decide +kernel
theorem dX12_readNames_49 : decode cX12_readNames 49 = .ok (.dup, 1) := by decide +kernel
theorem dX12_readNames_50 : decode cX12_readNames 50 = .ok (.getfield 85, 3) := by decide +kernel
theorem dX12_readNames_53 : decode cX12_readNames 53 = .ok (.iconst 1, 1) := by decide +kernel
theorem dX12_readNames_54 : decode cX12_readNames 54 = .ok (.iadd, 1) := by decide +kernel
theorem dX12_readNames_55 : decode cX12_readNames 55 = .ok (.putfield 85, 3) := by decide +kernel
theorem dX12_readNames_58 : decode cX12_readNames 58 = .ok (.aload_n 0, 1) := by decide +kernel
theorem dX12_readNames_59 : decode cX12_readNames 59 = .ok (.dup, 1) := by decide +kernel
theorem dX12_readNames_60 : decode cX12_readNames 60 = .ok (.getfield 79, 3) := by decide +kernel
theorem dX12_readNames_63 : decode cX12_readNames 63 = .ok (.iconst 1, 1) := by decide +kernel
theorem dX12_readNames_64 : decode cX12_readNames 64 = .ok (.iadd, 1) := by decide +kernel
theorem dX12_readNames_65 : decode cX12_readNames 65 = .ok (.putfield 79, 3) := by decide +kernel
theorem dX12_readNames_68 : decode cX12_readNames 68 = .ok (.goto (-58), 3) := by decide +kernel
theorem dX12_readNames_71 : decode cX12_readNames 71 = .ok (.aload_n 0, 1) := by decide +kernel
theorem dX12_readNames_72 : decode cX12_readNames 72 = .ok (.getfield 85, 3) := by decide +kernel
theorem dX12_readNames_75 : decode cX12_readNames 75 = .ok (.ifCond .eq 28, 3) := by decide +kernel
theorem dX12_readNames_78 : decode cX12_readNames 78 = .ok (.aload_n 0, 1) := by decide +kernel
theorem dX12_readNames_79 : decode cX12_readNames 79 = .ok (.getfield 79, 3) := by decide +kernel
theorem dX12_readNames_82 : decode cX12_readNames 82 = .ok (.aload_n 0, 1) := by decide +kernel
theorem dX12_readNames_83 : decode cX12_readNames 83 = .ok (.getfield 76, 3) := by decide +kernel
theorem dX12_readNames_86 : decode cX12_readNames 86 = .ok (.if_icmp .eq 17, 3) := by decide +kernel
theorem dX12_readNames_89 : decode cX12_readNames 89 = .ok (.aload_n 0, 1) := by decide +kernel
theorem dX12_readNames_90 : decode cX12_readNames 90 = .ok (.getfield 7, 3) := by decide +kernel
theorem dX12_readNames_93 : decode cX12_readNames 93 = .ok (.aload_n 0, 1) := by decide +kernel
theorem dX12_readNames_94 : decode cX12_readNames 94 = .ok (.getfield 79, 3) := by decide +kernel
theorem dX12_readNames_97 : decode cX12_readNames 97 = .ok (.iaload, 1) := by decide +kernel
theorem dX12_readNames_98 : decode cX12_readNames 98 = .ok (.bipush 47, 2) := by decide +kernel
theorem dX12_readNames_100 : decode cX12_readNames 100 = .ok (.if_icmp .eq 5, 3) := by decide +kernel
theorem dX12_readNames_103 : decode cX12_readNames 103 = .ok (.iconst 0, 1) := by decide +kernel
theorem dX12_readNames_104 : decode cX12_readNames 104 = .ok (.ireturn, 1) := by decide +kernel
theorem dX12_readNames_105 : decode cX12_readNames 105 = .ok (.aload_n 0, 1) := by decide +kernel
theorem dX12_readNames_106 : decode cX12_readNames 106 = .ok (.dup, 1) := by decide +kernel
theorem dX12_readNames_107 : decode cX12_readNames 107 = .ok (.getfield 79, 3) := by decide +kernel
theorem dX12_readNames_110 : decode cX12_readNames 110 = .ok (.iconst 1, 1) := by decide +kernel
theorem dX12_readNames_111 : decode cX12_readNames 111 = .ok (.iadd, 1) := by decide +kernel
theorem dX12_readNames_112 : decode cX12_readNames 112 = .ok (.putfield 79, 3) := by decide +kernel
theorem dX12_readNames_115 : decode cX12_readNames 115 = .ok (.aload_n 0, 1) := by decide +kernel
theorem dX12_readNames_116 : decode cX12_readNames 116 = .ok (.iconst 0, 1) := by decide +kernel
theorem dX12_readNames_117 : decode cX12_readNames 117 = .ok (.putfield 92, 3) := by decide +kernel
theorem dX12_readNames_120 : decode cX12_readNames 120 = .ok (.iconst 0, 1) := by decide +kernel
theorem dX12_readNames_121 : decode cX12_readNames 121 = .ok (.istore_n 1, 1) := by decide +kernel
theorem dX12_readNames_122 : decode cX12_readNames 122 = .ok (.iload_n 1, 1) := by decide +kernel
theorem dX12_readNames_123 : decode cX12_readNames 123 = .ok (.aload_n 0, 1) := by decide +kernel
theorem dX12_readNames_124 : decode cX12_readNames 124 = .ok (.getfield 85, 3) := by decide +kernel
theorem dX12_readNames_127 : decode cX12_readNames 127 = .ok (.if_icmp .ge 51, 3) := by decide +kernel
theorem dX12_readNames_130 : decode cX12_readNames 130 = .ok (.aload_n 0, 1) := by decide +kernel
theorem dX12_readNames_131 : decode cX12_readNames 131 = .ok (.invokevirtual 88, 3) := by decide +kernel
theorem dX12_readNames_134 : decode cX12_readNames 134 = .ok (.ifCond .ne 5, 3) := by decide +kernel
theorem dX12_readNames_137 : decode cX12_readNames 137 = .ok (.iconst 0, 1) := by decide +kernel
theorem dX12_readNames_138 : decode cX12_readNames 138 = .ok (.ireturn, 1) := by decide +kernel
theorem dX12_readNames_139 : decode cX12_readNames 139 = .ok (.aload_n 0, 1) := by decide +kernel
theorem dX12_readNames_140 : decode cX12_readNames 140 = .ok (.iconst 4, 1) := by decide +kernel
theorem dX12_readNames_141 : decode cX12_readNames 141 = .ok (.aload_n 0, 1) := by decide +kernel
theorem dX12_readNames_142 : decode cX12_readNames 142 = .ok (.getfield 92, 3) := by decide +kernel
theorem dX12_readNames_145 : decode cX12_readNames 145 = .ok (.imul, 1) := by decide +kernel
theorem dX12_readNames_146 : decode cX12_readNames 146 = .ok (.aload_n 0, 1) := by decide +kernel
theorem dX12_readNames_147 : decode cX12_readNames 147 = .ok (.getfield 7, 3) := by decide +kernel
theorem dX12_readNames_150 : decode cX12_readNames 150 = .ok (.aload_n 0, 1) := by decide +kernel
theorem dX12_readNames_151 : decode cX12_readNames 151 = .ok (.getfield 79, 3) := by decide +kernel
theorem dX12_readNames_154 : decode cX12_readNames 154 = .ok (.iaload, 1) := by decide +kernel
theorem dX12_readNames_155 : decode cX12_readNames 155 = .ok (.iadd, 1) := by decide +kernel
theorem dX12_readNames_156 : decode cX12_readNames 156 = .ok (.bipush 97, 2) := by decide +kernel
theorem dX12_readNames_158 : decode cX12_readNames 158 = .ok (.isub, 1) := by decide +kernel
theorem dX12_readNames_159 : decode cX12_readNames 159 = .ok (.putfield 92, 3) := by decide +kernel
theorem dX12_readNames_162 : decode cX12_readNames 162 = .ok (.aload_n 0, 1) := by decide +kernel
theorem dX12_readNames_163 : decode cX12_readNames 163 = .ok (.dup, 1) := by decide +kernel
theorem dX12_readNames_164 : decode cX12_readNames 164 = .ok (.getfield 79, 3) := by decide +kernel
theorem dX12_readNames_167 : decode cX12_readNames 167 = .ok (.iconst 1, 1) := by decide +kernel
theorem dX12_readNames_168 : decode cX12_readNames 168 = .ok (.iadd, 1) := by decide +kernel
theorem dX12_readNames_169 : decode cX12_readNames 169 = .ok (.putfield 79, 3) := by decide +kernel
theorem dX12_readNames_172 : decode cX12_readNames 172 = .ok (.iinc 1 1, 3) := by decide +kernel
theorem dX12_readNames_175 : decode cX12_readNames 175 = .ok (.goto (-53), 3) := by decide +kernel
theorem dX12_readNames_178 : decode cX12_readNames 178 = .ok (.iconst 1, 1) := by decide +kernel
theorem dX12_readNames_179 : decode cX12_readNames 179 = .ok (.ireturn, 1) := by decide +kernel
theorem dX12_readPart_0 : decode cX12_readPart 0 = .ok (.aload_n 0, 1) := by decide +kernel
theorem dX12_readPart_1 : decode cX12_readPart 1 = .ok (.getfield 7, 3) := by decide +kernel
theorem dX12_readPart_4 : decode cX12_readPart 4 = .ok (.aload_n 0, 1) := by decide +kernel
theorem dX12_readPart_5 : decode cX12_readPart 5 = .ok (.getfield 79, 3) := by decide +kernel
theorem dX12_readPart_8 : decode cX12_readPart 8 = .ok (.iaload, 1) := by decide +kernel
theorem dX12_readPart_9 : decode cX12_readPart 9 = .ok (.istore_n 1, 1) := by decide +kernel
theorem dX12_readPart_10 : decode cX12_readPart 10 = .ok (.aload_n 0, 1) := by decide +kernel
theorem dX12_readPart_11 : decode cX12_readPart 11 = .ok (.dup, 1) := by decide +kernel
theorem dX12_readPart_12 : decode cX12_readPart 12 = .ok (.getfield 79, 3) := by decide +kernel
theorem dX12_readPart_15 : decode cX12_readPart 15 = .ok (.iconst 1, 1) := by decide +kernel
theorem dX12_readPart_16 : decode cX12_readPart 16 = .ok (.iadd, 1) := by decide +kernel
theorem dX12_readPart_17 : decode cX12_readPart 17 = .ok (.putfield 79, 3) := by decide +kernel
theorem dX12_readPart_20 : decode cX12_readPart 20 = .ok (.iload_n 1, 1) := by decide +kernel
theorem dX12_readPart_21 : decode cX12_readPart 21 = .ok (.bipush 67, 2) := by decide +kernel
theorem dX12_readPart_23 : decode cX12_readPart 23 = .ok (.if_icmp .ne 48, 3) := by decide +kernel
theorem dX12_readPart_26 : decode cX12_readPart 26 = .ok (.aload_n 0, 1) := by decide +kernel
theorem dX12_readPart_27 : decode cX12_readPart 27 = .ok (.getfield 95, 3) := by decide +kernel
theorem dX12_readPart_30 : decode cX12_readPart 30 = .ok (.iconst 3, 1) := by decide +kernel
theorem dX12_readPart_31 : decode cX12_readPart 31 = .ok (.if_icmp .ge 40, 3) := by decide +kernel
theorem dX12_readPart_34 : decode cX12_readPart 34 = .ok (.aload_n 0, 1) := by decide +kernel
theorem dX12_readPart_35 : decode cX12_readPart 35 = .ok (.iconst 0, 1) := by decide +kernel
theorem dX12_readPart_36 : decode cX12_readPart 36 = .ok (.iconst 3, 1) := by decide +kernel
theorem dX12_readPart_37 : decode cX12_readPart 37 = .ok (.invokevirtual 98, 3) := by decide +kernel
theorem dX12_readPart_40 : decode cX12_readPart 40 = .ok (.istore_n 2, 1) := by decide +kernel
theorem dX12_readPart_41 : decode cX12_readPart 41 = .ok (.iload_n 2, 1) := by decide +kernel
theorem dX12_readPart_42 : decode cX12_readPart 42 = .ok (.bipush (-9), 2) := by decide +kernel
theorem dX12_readPart_44 : decode cX12_readPart 44 = .ok (.if_icmp .ne 5, 3) := by decide +kernel
theorem dX12_readPart_47 : decode cX12_readPart 47 = .ok (.iconst 0, 1) := by decide +kernel
theorem dX12_readPart_48 : decode cX12_readPart 48 = .ok (.ireturn, 1) := by decide +kernel
theorem dX12_readPart_49 : decode cX12_readPart 49 = .ok (.aload_n 0, 1) := by decide +kernel
theorem dX12_readPart_50 : decode cX12_readPart 50 = .ok (.getfield 23, 3) := by decide +kernel
theorem dX12_readPart_53 : decode cX12_readPart 53 = .ok (.aload_n 0, 1) := by decide +kernel
theorem dX12_readPart_54 : decode cX12_readPart 54 = .ok (.getfield 95, 3) := by decide +kernel
theorem dX12_readPart_57 : decode cX12_readPart 57 = .ok (.iload_n 2, 1) := by decide +kernel
theorem dX12_readPart_58 : decode cX12_readPart 58 = .ok (.iastore, 1) := by decide +kernel
theorem dX12_readPart_59 : decode cX12_readPart 59 = .ok (.aload_n 0, 1) := by decide +kernel
theorem dX12_readPart_60 : decode cX12_readPart 60 = .ok (.dup, 1) := by decide +kernel
theorem dX12_readPart_61 : decode cX12_readPart 61 = .ok (.getfield 95, 3) := by decide +kernel
theorem dX12_readPart_64 : decode cX12_readPart 64 = .ok (.iconst 1, 1) := by decide +kernel
theorem dX12_readPart_65 : decode cX12_readPart 65 = .ok (.iadd, 1) := by decide +kernel
theorem dX12_readPart_66 : decode cX12_readPart 66 = .ok (.putfield 95, 3) := by decide +kernel
theorem dX12_readPart_69 : decode cX12_readPart 69 = .ok (.iconst 1, 1) := by decide +kernel
theorem dX12_readPart_70 : decode cX12_readPart 70 = .ok (.ireturn, 1) := by decide +kernel
theorem dX12_readPart_71 : decode cX12_readPart 71 = .ok (.iload_n 1, 1) := by decide +kernel
theorem dX12_readPart_72 : decode cX12_readPart 72 = .ok (.bipush 82, 2) := by decide +kernel
theorem dX12_readPart_74 : decode cX12_readPart 74 = .ok (.if_icmp .ne 78, 3) := by decide +kernel
theorem dX12_readPart_77 : decode cX12_readPart 77 = .ok (.aload_n 0, 1) := by decide +kernel
theorem dX12_readPart_78 : decode cX12_readPart 78 = .ok (.getfield 102, 3) := by decide +kernel
theorem dX12_readPart_81 : decode cX12_readPart 81 = .ok (.iconst 4, 1) := by decide +kernel
theorem dX12_readPart_82 : decode cX12_readPart 82 = .ok (.if_icmp .ge 70, 3) := by decide +kernel
theorem dX12_readPart_85 : decode cX12_readPart 85 = .ok (.aload_n 0, 1) := by decide +kernel
theorem dX12_readPart_86 : decode cX12_readPart 86 = .ok (.iconst 1, 1) := by decide +kernel
theorem dX12_readPart_87 : decode cX12_readPart 87 = .ok (.iconst 4, 1) := by decide +kernel
theorem dX12_readPart_88 : decode cX12_readPart 88 = .ok (.invokevirtual 98, 3) := by decide +kernel
theorem dX12_readPart_91 : decode cX12_readPart 91 = .ok (.istore_n 2, 1) := by decide +kernel
theorem dX12_readPart_92 : decode cX12_readPart 92 = .ok (.iload_n 2, 1) := by decide +kernel
theorem dX12_readPart_93 : decode cX12_readPart 93 = .ok (.bipush (-9), 2) := by decide +kernel
theorem dX12_readPart_95 : decode cX12_readPart 95 = .ok (.if_icmp .ne 8, 3) := by decide +kernel
theorem dX12_readPart_98 : decode cX12_readPart 98 = .ok (.bipush (-9), 2) := by decide +kernel
theorem dX12_readPart_100 : decode cX12_readPart 100 = .ok (.goto 11, 3) := by decide +kernel
theorem dX12_readPart_103 : decode cX12_readPart 103 = .ok (.aload_n 0, 1) := by decide +kernel
theorem dX12_readPart_104 : decode cX12_readPart 104 = .ok (.iconst 0, 1) := by decide +kernel
theorem dX12_readPart_105 : decode cX12_readPart 105 = .ok (.iload_n 2, 1) := by decide +kernel
theorem dX12_readPart_106 : decode cX12_readPart 106 = .ok (.iconst 1, 1) := by decide +kernel
theorem dX12_readPart_107 : decode cX12_readPart 107 = .ok (.isub, 1) := by decide +kernel
theorem dX12_readPart_108 : decode cX12_readPart 108 = .ok (.invokevirtual 98, 3) := by decide +kernel
theorem dX12_readPart_111 : decode cX12_readPart 111 = .ok (.istore_n 3, 1) := by decide +kernel
theorem dX12_readPart_112 : decode cX12_readPart 112 = .ok (.iload_n 3, 1) := by decide +kernel
theorem dX12_readPart_113 : decode cX12_readPart 113 = .ok (.bipush (-9), 2) := by decide +kernel
theorem dX12_readPart_115 : decode cX12_readPart 115 = .ok (.if_icmp .ne 5, 3) := by decide +kernel
theorem dX12_readPart_118 : decode cX12_readPart 118 = .ok (.iconst 0, 1) := by decide +kernel
theorem dX12_readPart_119 : decode cX12_readPart 119 = .ok (.ireturn, 1) := by decide +kernel
theorem dX12_readPart_120 : decode cX12_readPart 120 = .ok (.aload_n 0, 1) := by decide +kernel
theorem dX12_readPart_121 : decode cX12_readPart 121 = .ok (.getfield 26, 3) := by decide +kernel
theorem dX12_readPart_124 : decode cX12_readPart 124 = .ok (.aload_n 0, 1) := by decide +kernel
theorem dX12_readPart_125 : decode cX12_readPart 125 = .ok (.getfield 102, 3) := by decide +kernel
theorem dX12_readPart_128 : decode cX12_readPart 128 = .ok (.iload_n 2, 1) := by decide +kernel
theorem dX12_readPart_129 : decode cX12_readPart 129 = .ok (.iastore, 1) := by decide +kernel
theorem dX12_readPart_130 : decode cX12_readPart 130 = .ok (.aload_n 0, 1) := by decide +kernel
theorem dX12_readPart_131 : decode cX12_readPart 131 = .ok (.getfield 29, 3) := by decide +kernel
theorem dX12_readPart_134 : decode cX12_readPart 134 = .ok (.aload_n 0, 1) := by decide +kernel
theorem dX12_readPart_135 : decode cX12_readPart 135 = .ok (.getfield 102, 3) := by decide +kernel
theorem dX12_readPart_138 : decode cX12_readPart 138 = .ok (.iload_n 3, 1) := by decide +kernel
theorem dX12_readPart_139 : decode cX12_readPart 139 = .ok (.iastore, 1) := by decide +kernel
theorem dX12_readPart_140 : decode cX12_readPart 140 = .ok (.aload_n 0, 1) := by decide +kernel
theorem dX12_readPart_141 : decode cX12_readPart 141 = .ok (.dup, 1) := by decide +kernel
theorem dX12_readPart_142 : decode cX12_readPart 142 = .ok (.getfield 102, 3) := by decide +kernel
theorem dX12_readPart_145 : decode cX12_readPart 145 = .ok (.iconst 1, 1) := by decide +kernel
theorem dX12_readPart_146 : decode cX12_readPart 146 = .ok (.iadd, 1) := by decide +kernel
theorem dX12_readPart_147 : decode cX12_readPart 147 = .ok (.putfield 102, 3) := by decide +kernel
theorem dX12_readPart_150 : decode cX12_readPart 150 = .ok (.iconst 1, 1) := by decide +kernel
theorem dX12_readPart_151 : decode cX12_readPart 151 = .ok (.ireturn, 1) := by decide +kernel
theorem dX12_readPart_152 : decode cX12_readPart 152 = .ok (.aload_n 0, 1) := by decide +kernel
theorem dX12_readPart_153 : decode cX12_readPart 153 = .ok (.dup, 1) := by decide +kernel
theorem dX12_readPart_154 : decode cX12_readPart 154 = .ok (.getfield 79, 3) := by decide +kernel
theorem dX12_readPart_157 : decode cX12_readPart 157 = .ok (.iconst 1, 1) := by decide +kernel
theorem dX12_readPart_158 : decode cX12_readPart 158 = .ok (.isub, 1) := by decide +kernel
theorem dX12_readPart_159 : decode cX12_readPart 159 = .ok (.putfield 79, 3) := by decide +kernel
theorem dX12_readPart_162 : decode cX12_readPart 162 = .ok (.iconst 0, 1) := by decide +kernel
theorem dX12_readPart_163 : decode cX12_readPart 163 = .ok (.ireturn, 1) := by decide +kernel
theorem dX12_readPaper_0 : decode cX12_readPaper 0 = .ok (.aload_n 0, 1) := by decide +kernel
theorem dX12_readPaper_1 : decode cX12_readPaper 1 = .ok (.iconst 0, 1) := by decide +kernel
theorem dX12_readPaper_2 : decode cX12_readPaper 2 = .ok (.putfield 79, 3) := by decide +kernel
theorem dX12_readPaper_5 : decode cX12_readPaper 5 = .ok (.aload_n 0, 1) := by decide +kernel
theorem dX12_readPaper_6 : decode cX12_readPaper 6 = .ok (.iconst 0, 1) := by decide +kernel
theorem dX12_readPaper_7 : decode cX12_readPaper 7 = .ok (.putfield 95, 3) := by decide +kernel
theorem dX12_readPaper_10 : decode cX12_readPaper 10 = .ok (.aload_n 0, 1) := by decide +kernel
theorem dX12_readPaper_11 : decode cX12_readPaper 11 = .ok (.iconst 0, 1) := by decide +kernel
theorem dX12_readPaper_12 : decode cX12_readPaper 12 = .ok (.putfield 102, 3) := by decide +kernel
theorem dX12_readPaper_15 : decode cX12_readPaper 15 = .ok (.aload_n 0, 1) := by decide +kernel
theorem dX12_readPaper_16 : decode cX12_readPaper 16 = .ok (.getfield 76, 3) := by decide +kernel
theorem dX12_readPaper_19 : decode cX12_readPaper 19 = .ok (.ifCond .eq 14, 3) := by decide +kernel
theorem dX12_readPaper_22 : decode cX12_readPaper 22 = .ok (.aload_n 0, 1) := by decide +kernel
theorem dX12_readPaper_23 : decode cX12_readPaper 23 = .ok (.getfield 7, 3) := by decide +kernel
theorem dX12_readPaper_26 : decode cX12_readPaper 26 = .ok (.iconst 0, 1) := by decide +kernel
theorem dX12_readPaper_27 : decode cX12_readPaper 27 = .ok (.iaload, 1) := by decide +kernel
theorem dX12_readPaper_28 : decode cX12_readPaper 28 = .ok (.bipush 69, 2) := by decide +kernel
theorem dX12_readPaper_30 : decode cX12_readPaper 30 = .ok (.if_icmp .eq 5, 3) := by decide +kernel
theorem dX12_readPaper_33 : decode cX12_readPaper 33 = .ok (.iconst 0, 1) := by decide +kernel
theorem dX12_readPaper_34 : decode cX12_readPaper 34 = .ok (.ireturn, 1) := by decide +kernel
theorem dX12_readPaper_35 : decode cX12_readPaper 35 = .ok (.aload_n 0, 1) := by decide +kernel
theorem dX12_readPaper_36 : decode cX12_readPaper 36 = .ok (.iconst 1, 1) := by decide +kernel
theorem dX12_readPaper_37 : decode cX12_readPaper 37 = .ok (.putfield 79, 3) := by decide +kernel
theorem dX12_readPaper_40 : decode cX12_readPaper 40 = .ok (.aload_n 0, 1) := by decide +kernel
theorem dX12_readPaper_41 : decode cX12_readPaper 41 = .ok (.invokevirtual 105, 3) := by decide +kernel
theorem dX12_readPaper_44 : decode cX12_readPaper 44 = .ok (.ifCond .ne 8, 3) := by decide +kernel
theorem dX12_readPaper_47 : decode cX12_readPaper 47 = .ok (.aload_n 0, 1) := by decide +kernel
theorem dX12_readPaper_48 : decode cX12_readPaper 48 = .ok (.getfield 79, 3) := by decide +kernel
theorem dX12_readPaper_51 : decode cX12_readPaper 51 = .ok (.ireturn, 1) := by decide +kernel
theorem dX12_readPaper_52 : decode cX12_readPaper 52 = .ok (.aload_n 0, 1) := by decide +kernel
theorem dX12_readPaper_53 : decode cX12_readPaper 53 = .ok (.getfield 79, 3) := by decide +kernel
theorem dX12_readPaper_56 : decode cX12_readPaper 56 = .ok (.aload_n 0, 1) := by decide +kernel
theorem dX12_readPaper_57 : decode cX12_readPaper 57 = .ok (.getfield 76, 3) := by decide +kernel
theorem dX12_readPaper_60 : decode cX12_readPaper 60 = .ok (.if_icmp .ge 15, 3) := by decide +kernel
theorem dX12_readPaper_63 : decode cX12_readPaper 63 = .ok (.aload_n 0, 1) := by decide +kernel
theorem dX12_readPaper_64 : decode cX12_readPaper 64 = .ok (.invokevirtual 108, 3) := by decide +kernel
theorem dX12_readPaper_67 : decode cX12_readPaper 67 = .ok (.ifCond .ne (-15), 3) := by decide +kernel
theorem dX12_readPaper_70 : decode cX12_readPaper 70 = .ok (.aload_n 0, 1) := by decide +kernel
theorem dX12_readPaper_71 : decode cX12_readPaper 71 = .ok (.getfield 79, 3) := by decide +kernel
theorem dX12_readPaper_74 : decode cX12_readPaper 74 = .ok (.ireturn, 1) := by decide +kernel
theorem dX12_readPaper_75 : decode cX12_readPaper 75 = .ok (.bipush (-9), 2) := by decide +kernel
theorem dX12_readPaper_77 : decode cX12_readPaper 77 = .ok (.ireturn, 1) := by decide +kernel
theorem dX12_fault_0 : decode cX12_fault 0 = .ok (.aload_n 0, 1) := by decide +kernel
theorem dX12_fault_1 : decode cX12_fault 1 = .ok (.iconst 0, 1) := by decide +kernel
theorem dX12_fault_2 : decode cX12_fault 2 = .ok (.putfield 57, 3) := by decide +kernel
theorem dX12_fault_5 : decode cX12_fault 5 = .ok (.aload_n 0, 1) := by decide +kernel
theorem dX12_fault_6 : decode cX12_fault 6 = .ok (.invokevirtual 111, 3) := by decide +kernel
theorem dX12_fault_9 : decode cX12_fault 9 = .ok (.ireturn, 1) := by decide +kernel
theorem dX12_paper_0 : decode cX12_paper 0 = .ok (.aload_n 0, 1) := by decide +kernel
theorem dX12_paper_1 : decode cX12_paper 1 = .ok (.iconst 0, 1) := by decide +kernel
theorem dX12_paper_2 : decode cX12_paper 2 = .ok (.putfield 57, 3) := by decide +kernel
theorem dX12_paper_5 : decode cX12_paper 5 = .ok (.aload_n 0, 1) := by decide +kernel
theorem dX12_paper_6 : decode cX12_paper 6 = .ok (.invokevirtual 111, 3) := by decide +kernel
theorem dX12_paper_9 : decode cX12_paper 9 = .ok (.bipush (-9), 2) := by decide +kernel
theorem dX12_paper_11 : decode cX12_paper 11 = .ok (.if_icmp .eq 6, 3) := by decide +kernel
theorem dX12_paper_14 : decode cX12_paper 14 = .ok (.bipush (-3), 2) := by decide +kernel
theorem dX12_paper_16 : decode cX12_paper 16 = .ok (.ireturn, 1) := by decide +kernel
theorem dX12_paper_17 : decode cX12_paper 17 = .ok (.aload_n 0, 1) := by decide +kernel
theorem dX12_paper_18 : decode cX12_paper 18 = .ok (.aload_n 0, 1) := by decide +kernel
theorem dX12_paper_19 : decode cX12_paper 19 = .ok (.getfield 85, 3) := by decide +kernel
theorem dX12_paper_22 : decode cX12_paper 22 = .ok (.putfield 13, 3) := by decide +kernel
theorem dX12_paper_25 : decode cX12_paper 25 = .ok (.aload_n 0, 1) := by decide +kernel
theorem dX12_paper_26 : decode cX12_paper 26 = .ok (.aload_n 0, 1) := by decide +kernel
theorem dX12_paper_27 : decode cX12_paper 27 = .ok (.getfield 82, 3) := by decide +kernel
theorem dX12_paper_30 : decode cX12_paper 30 = .ok (.putfield 115, 3) := by decide +kernel
theorem dX12_paper_33 : decode cX12_paper 33 = .ok (.aload_n 0, 1) := by decide +kernel
theorem dX12_paper_34 : decode cX12_paper 34 = .ok (.aload_n 0, 1) := by decide +kernel
theorem dX12_paper_35 : decode cX12_paper 35 = .ok (.getfield 95, 3) := by decide +kernel
theorem dX12_paper_38 : decode cX12_paper 38 = .ok (.putfield 62, 3) := by decide +kernel
theorem dX12_paper_41 : decode cX12_paper 41 = .ok (.aload_n 0, 1) := by decide +kernel
theorem dX12_paper_42 : decode cX12_paper 42 = .ok (.aload_n 0, 1) := by decide +kernel
theorem dX12_paper_43 : decode cX12_paper 43 = .ok (.getfield 102, 3) := by decide +kernel
theorem dX12_paper_46 : decode cX12_paper 46 = .ok (.putfield 69, 3) := by decide +kernel
theorem dX12_paper_49 : decode cX12_paper 49 = .ok (.iconst 0, 1) := by decide +kernel
theorem dX12_paper_50 : decode cX12_paper 50 = .ok (.istore_n 1, 1) := by decide +kernel
theorem dX12_paper_51 : decode cX12_paper 51 = .ok (.iload_n 1, 1) := by decide +kernel
theorem dX12_paper_52 : decode cX12_paper 52 = .ok (.bipush 9, 2) := by decide +kernel
theorem dX12_paper_54 : decode cX12_paper 54 = .ok (.if_icmp .ge 16, 3) := by decide +kernel
theorem dX12_paper_57 : decode cX12_paper 57 = .ok (.aload_n 0, 1) := by decide +kernel
theorem dX12_paper_58 : decode cX12_paper 58 = .ok (.getfield 32, 3) := by decide +kernel
theorem dX12_paper_61 : decode cX12_paper 61 = .ok (.iload_n 1, 1) := by decide +kernel
theorem dX12_paper_62 : decode cX12_paper 62 = .ok (.iconst 0, 1) := by decide +kernel
theorem dX12_paper_63 : decode cX12_paper 63 = .ok (.iastore, 1) := by decide +kernel
theorem dX12_paper_64 : decode cX12_paper 64 = .ok (.iinc 1 1, 3) := by decide +kernel
theorem dX12_paper_67 : decode cX12_paper 67 = .ok (.goto (-16), 3) := by decide +kernel
theorem dX12_paper_70 : decode cX12_paper 70 = .ok (.aload_n 0, 1) := by decide +kernel
theorem dX12_paper_71 : decode cX12_paper 71 = .ok (.getfield 32, 3) := by decide +kernel
theorem dX12_paper_74 : decode cX12_paper 74 = .ok (.iconst 0, 1) := by decide +kernel
theorem dX12_paper_75 : decode cX12_paper 75 = .ok (.aload_n 0, 1) := by decide +kernel
theorem dX12_paper_76 : decode cX12_paper 76 = .ok (.getfield 92, 3) := by decide +kernel
theorem dX12_paper_79 : decode cX12_paper 79 = .ok (.iastore, 1) := by decide +kernel
theorem dX12_paper_80 : decode cX12_paper 80 = .ok (.iconst 0, 1) := by decide +kernel
theorem dX12_paper_81 : decode cX12_paper 81 = .ok (.istore_n 1, 1) := by decide +kernel
theorem dX12_paper_82 : decode cX12_paper 82 = .ok (.iload_n 1, 1) := by decide +kernel
theorem dX12_paper_83 : decode cX12_paper 83 = .ok (.aload_n 0, 1) := by decide +kernel
theorem dX12_paper_84 : decode cX12_paper 84 = .ok (.getfield 62, 3) := by decide +kernel
theorem dX12_paper_87 : decode cX12_paper 87 = .ok (.if_icmp .ge 23, 3) := by decide +kernel
theorem dX12_paper_90 : decode cX12_paper 90 = .ok (.aload_n 0, 1) := by decide +kernel
theorem dX12_paper_91 : decode cX12_paper 91 = .ok (.getfield 32, 3) := by decide +kernel
theorem dX12_paper_94 : decode cX12_paper 94 = .ok (.iconst 2, 1) := by decide +kernel
theorem dX12_paper_95 : decode cX12_paper 95 = .ok (.iload_n 1, 1) := by decide +kernel
theorem dX12_paper_96 : decode cX12_paper 96 = .ok (.iadd, 1) := by decide +kernel
theorem dX12_paper_97 : decode cX12_paper 97 = .ok (.aload_n 0, 1) := by decide +kernel
theorem dX12_paper_98 : decode cX12_paper 98 = .ok (.getfield 23, 3) := by decide +kernel
theorem dX12_paper_101 : decode cX12_paper 101 = .ok (.iload_n 1, 1) := by decide +kernel
theorem dX12_paper_102 : decode cX12_paper 102 = .ok (.iaload, 1) := by decide +kernel
theorem dX12_paper_103 : decode cX12_paper 103 = .ok (.iastore, 1) := by decide +kernel
theorem dX12_paper_104 : decode cX12_paper 104 = .ok (.iinc 1 1, 3) := by decide +kernel
theorem dX12_paper_107 : decode cX12_paper 107 = .ok (.goto (-25), 3) := by decide +kernel
theorem dX12_paper_110 : decode cX12_paper 110 = .ok (.iconst 0, 1) := by decide +kernel
theorem dX12_paper_111 : decode cX12_paper 111 = .ok (.istore_n 1, 1) := by decide +kernel
theorem dX12_paper_112 : decode cX12_paper 112 = .ok (.iload_n 1, 1) := by decide +kernel
theorem dX12_paper_113 : decode cX12_paper 113 = .ok (.aload_n 0, 1) := by decide +kernel
theorem dX12_paper_114 : decode cX12_paper 114 = .ok (.getfield 69, 3) := by decide +kernel
theorem dX12_paper_117 : decode cX12_paper 117 = .ok (.if_icmp .ge 45, 3) := by decide +kernel
theorem dX12_paper_120 : decode cX12_paper 120 = .ok (.aload_n 0, 1) := by decide +kernel
theorem dX12_paper_121 : decode cX12_paper 121 = .ok (.getfield 17, 3) := by decide +kernel
theorem dX12_paper_124 : decode cX12_paper 124 = .ok (.iload_n 1, 1) := by decide +kernel
theorem dX12_paper_125 : decode cX12_paper 125 = .ok (.aload_n 0, 1) := by decide +kernel
theorem dX12_paper_126 : decode cX12_paper 126 = .ok (.getfield 26, 3) := by decide +kernel
theorem dX12_paper_129 : decode cX12_paper 129 = .ok (.iload_n 1, 1) := by decide +kernel
theorem dX12_paper_130 : decode cX12_paper 130 = .ok (.iaload, 1) := by decide +kernel
theorem dX12_paper_131 : decode cX12_paper 131 = .ok (.iastore, 1) := by decide +kernel
theorem dX12_paper_132 : decode cX12_paper 132 = .ok (.aload_n 0, 1) := by decide +kernel
theorem dX12_paper_133 : decode cX12_paper 133 = .ok (.getfield 20, 3) := by decide +kernel
theorem dX12_paper_136 : decode cX12_paper 136 = .ok (.iload_n 1, 1) := by decide +kernel
theorem dX12_paper_137 : decode cX12_paper 137 = .ok (.aload_n 0, 1) := by decide +kernel
theorem dX12_paper_138 : decode cX12_paper 138 = .ok (.getfield 29, 3) := by decide +kernel
theorem dX12_paper_141 : decode cX12_paper 141 = .ok (.iload_n 1, 1) := by decide +kernel
theorem dX12_paper_142 : decode cX12_paper 142 = .ok (.iaload, 1) := by decide +kernel
theorem dX12_paper_143 : decode cX12_paper 143 = .ok (.iastore, 1) := by decide +kernel
theorem dX12_paper_144 : decode cX12_paper 144 = .ok (.aload_n 0, 1) := by decide +kernel
theorem dX12_paper_145 : decode cX12_paper 145 = .ok (.getfield 32, 3) := by decide +kernel
theorem dX12_paper_148 : decode cX12_paper 148 = .ok (.iconst 5, 1) := by decide +kernel
theorem dX12_paper_149 : decode cX12_paper 149 = .ok (.iload_n 1, 1) := by decide +kernel
theorem dX12_paper_150 : decode cX12_paper 150 = .ok (.iadd, 1) := by decide +kernel
theorem dX12_paper_151 : decode cX12_paper 151 = .ok (.aload_n 0, 1) := by decide +kernel
theorem dX12_paper_152 : decode cX12_paper 152 = .ok (.getfield 92, 3) := by decide +kernel
theorem dX12_paper_155 : decode cX12_paper 155 = .ok (.iastore, 1) := by decide +kernel
theorem dX12_paper_156 : decode cX12_paper 156 = .ok (.iinc 1 1, 3) := by decide +kernel
theorem dX12_paper_159 : decode cX12_paper 159 = .ok (.goto (-47), 3) := by decide +kernel
theorem dX12_paper_162 : decode cX12_paper 162 = .ok (.aload_n 0, 1) := by decide +kernel
theorem dX12_paper_163 : decode cX12_paper 163 = .ok (.iconst 0, 1) := by decide +kernel
theorem dX12_paper_164 : decode cX12_paper 164 = .ok (.putfield 118, 3) := by decide +kernel
theorem dX12_paper_167 : decode cX12_paper 167 = .ok (.aload_n 0, 1) := by decide +kernel
theorem dX12_paper_168 : decode cX12_paper 168 = .ok (.getfield 44, 3) := by decide +kernel
theorem dX12_paper_171 : decode cX12_paper 171 = .ok (.iconst 0, 1) := by decide +kernel
theorem dX12_paper_172 : decode cX12_paper 172 = .ok (.iconst 0, 1) := by decide +kernel
theorem dX12_paper_173 : decode cX12_paper 173 = .ok (.bastore, 1) := by decide +kernel
theorem dX12_paper_174 : decode cX12_paper 174 = .ok (.aload_n 0, 1) := by decide +kernel
theorem dX12_paper_175 : decode cX12_paper 175 = .ok (.getfield 44, 3) := by decide +kernel
theorem dX12_paper_178 : decode cX12_paper 178 = .ok (.iconst 1, 1) := by decide +kernel
theorem dX12_paper_179 : decode cX12_paper 179 = .ok (.iconst 0, 1) := by decide +kernel
theorem dX12_paper_180 : decode cX12_paper 180 = .ok (.bastore, 1) := by decide +kernel
theorem dX12_paper_181 : decode cX12_paper 181 = .ok (.bipush 10, 2) := by decide +kernel
theorem dX12_paper_183 : decode cX12_paper 183 = .ok (.aload_n 0, 1) := by decide +kernel
theorem dX12_paper_184 : decode cX12_paper 184 = .ok (.getfield 62, 3) := by decide +kernel
theorem dX12_paper_187 : decode cX12_paper 187 = .ok (.imul, 1) := by decide +kernel
theorem dX12_paper_188 : decode cX12_paper 188 = .ok (.aload_n 0, 1) := by decide +kernel
theorem dX12_paper_189 : decode cX12_paper 189 = .ok (.getfield 69, 3) := by decide +kernel
theorem dX12_paper_192 : decode cX12_paper 192 = .ok (.iadd, 1) := by decide +kernel
theorem dX12_paper_193 : decode cX12_paper 193 = .ok (.ireturn, 1) := by decide +kernel
theorem dX12_letterOf_0 : decode cX12_letterOf 0 = .ok (.iload_n 1, 1) := by decide +kernel
theorem dX12_letterOf_1 : decode cX12_letterOf 1 = .ok (.iconst 4, 1) := by decide +kernel
theorem dX12_letterOf_2 : decode cX12_letterOf 2 = .ok (.aload_n 0, 1) := by decide +kernel
theorem dX12_letterOf_3 : decode cX12_letterOf 3 = .ok (.getfield 13, 3) := by decide +kernel
theorem dX12_letterOf_6 : decode cX12_letterOf 6 = .ok (.iconst 1, 1) := by decide +kernel
theorem dX12_letterOf_7 : decode cX12_letterOf 7 = .ok (.isub, 1) := by decide +kernel
theorem dX12_letterOf_8 : decode cX12_letterOf 8 = .ok (.iload_n 2, 1) := by decide +kernel
theorem dX12_letterOf_9 : decode cX12_letterOf 9 = .ok (.isub, 1) := by decide +kernel
theorem dX12_letterOf_10 : decode cX12_letterOf 10 = .ok (.invokestatic 121, 3) := by decide +kernel
theorem dX12_letterOf_13 : decode cX12_letterOf 13 = .ok (.idiv, 1) := by decide +kernel
theorem dX12_letterOf_14 : decode cX12_letterOf 14 = .ok (.iconst 4, 1) := by decide +kernel
theorem dX12_letterOf_15 : decode cX12_letterOf 15 = .ok (.irem, 1) := by decide +kernel
theorem dX12_letterOf_16 : decode cX12_letterOf 16 = .ok (.ireturn, 1) := by decide +kernel
theorem dX12_put_0 : decode cX12_put 0 = .ok (.iload_n 1, 1) := by decide +kernel
theorem dX12_put_1 : decode cX12_put 1 = .ok (.iload_n 3, 1) := by decide +kernel
theorem dX12_put_2 : decode cX12_put 2 = .ok (.aload_n 0, 1) := by decide +kernel
theorem dX12_put_3 : decode cX12_put 3 = .ok (.iload_n 1, 1) := by decide +kernel
theorem dX12_put_4 : decode cX12_put 4 = .ok (.iload_n 2, 1) := by decide +kernel
theorem dX12_put_5 : decode cX12_put 5 = .ok (.invokevirtual 124, 3) := by decide +kernel
theorem dX12_put_8 : decode cX12_put 8 = .ok (.isub, 1) := by decide +kernel
theorem dX12_put_9 : decode cX12_put 9 = .ok (.iconst 4, 1) := by decide +kernel
theorem dX12_put_10 : decode cX12_put 10 = .ok (.aload_n 0, 1) := by decide +kernel
theorem dX12_put_11 : decode cX12_put 11 = .ok (.getfield 13, 3) := by decide +kernel
theorem dX12_put_14 : decode cX12_put 14 = .ok (.iconst 1, 1) := by decide +kernel
theorem dX12_put_15 : decode cX12_put 15 = .ok (.isub, 1) := by decide +kernel
theorem dX12_put_16 : decode cX12_put 16 = .ok (.iload_n 2, 1) := by decide +kernel
theorem dX12_put_17 : decode cX12_put 17 = .ok (.isub, 1) := by decide +kernel
theorem dX12_put_18 : decode cX12_put 18 = .ok (.invokestatic 121, 3) := by decide +kernel
theorem dX12_put_21 : decode cX12_put 21 = .ok (.imul, 1) := by decide +kernel
theorem dX12_put_22 : decode cX12_put 22 = .ok (.iadd, 1) := by decide +kernel
theorem dX12_put_23 : decode cX12_put 23 = .ok (.ireturn, 1) := by decide +kernel
theorem dX12_notice_0 : decode cX12_notice 0 = .ok (.iload_n 3, 1) := by decide +kernel
theorem dX12_notice_1 : decode cX12_notice 1 = .ok (.iconst 1, 1) := by decide +kernel
theorem dX12_notice_2 : decode cX12_notice 2 = .ok (.iadd, 1) := by decide +kernel
theorem dX12_notice_3 : decode cX12_notice 3 = .ok (.aload_n 0, 1) := by decide +kernel
theorem dX12_notice_4 : decode cX12_notice 4 = .ok (.getfield 13, 3) := by decide +kernel
theorem dX12_notice_7 : decode cX12_notice 7 = .ok (.irem, 1) := by decide +kernel
theorem dX12_notice_8 : decode cX12_notice 8 = .ok (.istore 5, 2) := by decide +kernel
theorem dX12_notice_10 : decode cX12_notice 10 = .ok (.aload_n 0, 1) := by decide +kernel
theorem dX12_notice_11 : decode cX12_notice 11 = .ok (.iload_n 1, 1) := by decide +kernel
theorem dX12_notice_12 : decode cX12_notice 12 = .ok (.iload_n 3, 1) := by decide +kernel
theorem dX12_notice_13 : decode cX12_notice 13 = .ok (.iload 4, 2) := by decide +kernel
theorem dX12_notice_15 : decode cX12_notice 15 = .ok (.invokevirtual 127, 3) := by decide +kernel
theorem dX12_notice_18 : decode cX12_notice 18 = .ok (.istore 6, 2) := by decide +kernel
theorem dX12_notice_20 : decode cX12_notice 20 = .ok (.iload_n 2, 1) := by decide +kernel
theorem dX12_notice_21 : decode cX12_notice 21 = .ok (.tableswitch 86 1 3 #[27, 48, 62], 27) := by decide +kernel
theorem dX12_notice_48 : decode cX12_notice 48 = .ok (.aload_n 0, 1) := by decide +kernel
theorem dX12_notice_49 : decode cX12_notice 49 = .ok (.iload 6, 2) := by decide +kernel
theorem dX12_notice_51 : decode cX12_notice 51 = .ok (.iload 5, 2) := by decide +kernel
theorem dX12_notice_53 : decode cX12_notice 53 = .ok (.aload_n 0, 1) := by decide +kernel
theorem dX12_notice_54 : decode cX12_notice 54 = .ok (.iload 6, 2) := by decide +kernel
theorem dX12_notice_56 : decode cX12_notice 56 = .ok (.iload 5, 2) := by decide +kernel
theorem dX12_notice_58 : decode cX12_notice 58 = .ok (.invokevirtual 124, 3) := by decide +kernel
theorem dX12_notice_61 : decode cX12_notice 61 = .ok (.iconst 1, 1) := by decide +kernel
theorem dX12_notice_62 : decode cX12_notice 62 = .ok (.iadd, 1) := by decide +kernel
theorem dX12_notice_63 : decode cX12_notice 63 = .ok (.iconst 4, 1) := by decide +kernel
theorem dX12_notice_64 : decode cX12_notice 64 = .ok (.irem, 1) := by decide +kernel
theorem dX12_notice_65 : decode cX12_notice 65 = .ok (.invokevirtual 127, 3) := by decide +kernel
theorem dX12_notice_68 : decode cX12_notice 68 = .ok (.ireturn, 1) := by decide +kernel
theorem dX12_notice_69 : decode cX12_notice 69 = .ok (.aload_n 0, 1) := by decide +kernel
theorem dX12_notice_70 : decode cX12_notice 70 = .ok (.iload 6, 2) := by decide +kernel
theorem dX12_notice_72 : decode cX12_notice 72 = .ok (.iload_n 3, 1) := by decide +kernel
theorem dX12_notice_73 : decode cX12_notice 73 = .ok (.iload 4, 2) := by decide +kernel
theorem dX12_notice_75 : decode cX12_notice 75 = .ok (.iconst 1, 1) := by decide +kernel
theorem dX12_notice_76 : decode cX12_notice 76 = .ok (.iadd, 1) := by decide +kernel
theorem dX12_notice_77 : decode cX12_notice 77 = .ok (.iconst 4, 1) := by decide +kernel
theorem dX12_notice_78 : decode cX12_notice 78 = .ok (.irem, 1) := by decide +kernel
theorem dX12_notice_79 : decode cX12_notice 79 = .ok (.invokevirtual 127, 3) := by decide +kernel
theorem dX12_notice_82 : decode cX12_notice 82 = .ok (.ireturn, 1) := by decide +kernel
theorem dX12_notice_83 : decode cX12_notice 83 = .ok (.aload_n 0, 1) := by decide +kernel
theorem dX12_notice_84 : decode cX12_notice 84 = .ok (.aload_n 0, 1) := by decide +kernel
theorem dX12_notice_85 : decode cX12_notice 85 = .ok (.iload 6, 2) := by decide +kernel
theorem dX12_notice_87 : decode cX12_notice 87 = .ok (.iload_n 3, 1) := by decide +kernel
theorem dX12_notice_88 : decode cX12_notice 88 = .ok (.aload_n 0, 1) := by decide +kernel
theorem dX12_notice_89 : decode cX12_notice 89 = .ok (.iload 6, 2) := by decide +kernel
theorem dX12_notice_91 : decode cX12_notice 91 = .ok (.iload 5, 2) := by decide +kernel
theorem dX12_notice_93 : decode cX12_notice 93 = .ok (.invokevirtual 124, 3) := by decide +kernel
theorem dX12_notice_96 : decode cX12_notice 96 = .ok (.invokevirtual 127, 3) := by decide +kernel
theorem dX12_notice_99 : decode cX12_notice 99 = .ok (.iload 5, 2) := by decide +kernel
theorem dX12_notice_101 : decode cX12_notice 101 = .ok (.iload 4, 2) := by decide +kernel
theorem dX12_notice_103 : decode cX12_notice 103 = .ok (.invokevirtual 127, 3) := by decide +kernel
theorem dX12_notice_106 : decode cX12_notice 106 = .ok (.ireturn, 1) := by decide +kernel
theorem dX12_notice_107 : decode cX12_notice 107 = .ok (.iload 6, 2) := by decide +kernel
theorem dX12_notice_109 : decode cX12_notice 109 = .ok (.ireturn, 1) := by decide +kernel
theorem dX12_rightOf_0 : decode cX12_rightOf 0 = .ok (.iconst 0, 1) := by decide +kernel
theorem dX12_rightOf_1 : decode cX12_rightOf 1 = .ok (.istore_n 2, 1) := by decide +kernel
theorem dX12_rightOf_2 : decode cX12_rightOf 2 = .ok (.iconst 0, 1) := by decide +kernel
theorem dX12_rightOf_3 : decode cX12_rightOf 3 = .ok (.istore_n 3, 1) := by decide +kernel
theorem dX12_rightOf_4 : decode cX12_rightOf 4 = .ok (.iload_n 3, 1) := by decide +kernel
theorem dX12_rightOf_5 : decode cX12_rightOf 5 = .ok (.aload_n 0, 1) := by decide +kernel
theorem dX12_rightOf_6 : decode cX12_rightOf 6 = .ok (.getfield 13, 3) := by decide +kernel
theorem dX12_rightOf_9 : decode cX12_rightOf 9 = .ok (.if_icmp .ge 35, 3) := by decide +kernel
theorem dX12_rightOf_12 : decode cX12_rightOf 12 = .ok (.iload_n 2, 1) := by decide +kernel
theorem dX12_rightOf_13 : decode cX12_rightOf 13 = .ok (.aload_n 0, 1) := by decide +kernel
theorem dX12_rightOf_14 : decode cX12_rightOf 14 = .ok (.iload_n 1, 1) := by decide +kernel
theorem dX12_rightOf_15 : decode cX12_rightOf 15 = .ok (.iload_n 3, 1) := by decide +kernel
theorem dX12_rightOf_16 : decode cX12_rightOf 16 = .ok (.invokevirtual 124, 3) := by decide +kernel
theorem dX12_rightOf_19 : decode cX12_rightOf 19 = .ok (.aload_n 0, 1) := by decide +kernel
theorem dX12_rightOf_20 : decode cX12_rightOf 20 = .ok (.aload_n 0, 1) := by decide +kernel
theorem dX12_rightOf_21 : decode cX12_rightOf 21 = .ok (.getfield 115, 3) := by decide +kernel
theorem dX12_rightOf_24 : decode cX12_rightOf 24 = .ok (.iload_n 3, 1) := by decide +kernel
theorem dX12_rightOf_25 : decode cX12_rightOf 25 = .ok (.invokevirtual 124, 3) := by decide +kernel
theorem dX12_rightOf_28 : decode cX12_rightOf 28 = .ok (.if_icmp .ne 7, 3) := by decide +kernel
theorem dX12_rightOf_31 : decode cX12_rightOf 31 = .ok (.iconst 1, 1) := by decide +kernel
theorem dX12_rightOf_32 : decode cX12_rightOf 32 = .ok (.goto 4, 3) := by decide +kernel
theorem dX12_rightOf_35 : decode cX12_rightOf 35 = .ok (.iconst 0, 1) := by decide +kernel
theorem dX12_rightOf_36 : decode cX12_rightOf 36 = .ok (.iadd, 1) := by decide +kernel
theorem dX12_rightOf_37 : decode cX12_rightOf 37 = .ok (.istore_n 2, 1) := by decide +kernel
theorem dX12_rightOf_38 : decode cX12_rightOf 38 = .ok (.iinc 3 1, 3) := by decide +kernel
theorem dX12_rightOf_41 : decode cX12_rightOf 41 = .ok (.goto (-37), 3) := by decide +kernel
theorem dX12_rightOf_44 : decode cX12_rightOf 44 = .ok (.iload_n 2, 1) := by decide +kernel
theorem dX12_rightOf_45 : decode cX12_rightOf 45 = .ok (.ireturn, 1) := by decide +kernel
theorem dX12_told_0 : decode cX12_told 0 = .ok (.iconst 0, 1) := by decide +kernel
theorem dX12_told_1 : decode cX12_told 1 = .ok (.istore_n 2, 1) := by decide +kernel
theorem dX12_told_2 : decode cX12_told 2 = .ok (.iconst 0, 1) := by decide +kernel
theorem dX12_told_3 : decode cX12_told 3 = .ok (.istore_n 3, 1) := by decide +kernel
theorem dX12_told_4 : decode cX12_told 4 = .ok (.iload_n 3, 1) := by decide +kernel
theorem dX12_told_5 : decode cX12_told 5 = .ok (.aload_n 0, 1) := by decide +kernel
theorem dX12_told_6 : decode cX12_told 6 = .ok (.getfield 13, 3) := by decide +kernel
theorem dX12_told_9 : decode cX12_told 9 = .ok (.if_icmp .ge 21, 3) := by decide +kernel
theorem dX12_told_12 : decode cX12_told 12 = .ok (.bipush 10, 2) := by decide +kernel
theorem dX12_told_14 : decode cX12_told 14 = .ok (.iload_n 2, 1) := by decide +kernel
theorem dX12_told_15 : decode cX12_told 15 = .ok (.imul, 1) := by decide +kernel
theorem dX12_told_16 : decode cX12_told 16 = .ok (.aload_n 0, 1) := by decide +kernel
theorem dX12_told_17 : decode cX12_told 17 = .ok (.iload_n 1, 1) := by decide +kernel
theorem dX12_told_18 : decode cX12_told 18 = .ok (.iload_n 3, 1) := by decide +kernel
theorem dX12_told_19 : decode cX12_told 19 = .ok (.invokevirtual 124, 3) := by decide +kernel
theorem dX12_told_22 : decode cX12_told 22 = .ok (.iadd, 1) := by decide +kernel
theorem dX12_told_23 : decode cX12_told 23 = .ok (.istore_n 2, 1) := by decide +kernel
theorem dX12_told_24 : decode cX12_told 24 = .ok (.iinc 3 1, 3) := by decide +kernel
theorem dX12_told_27 : decode cX12_told 27 = .ok (.goto (-23), 3) := by decide +kernel
theorem dX12_told_30 : decode cX12_told 30 = .ok (.iload_n 2, 1) := by decide +kernel
theorem dX12_told_31 : decode cX12_told 31 = .ok (.ireturn, 1) := by decide +kernel
theorem dX12_nameOf_0 : decode cX12_nameOf 0 = .ok (.iload_n 1, 1) := by decide +kernel
theorem dX12_nameOf_1 : decode cX12_nameOf 1 = .ok (.i2l, 1) := by decide +kernel
theorem dX12_nameOf_2 : decode cX12_nameOf 2 = .ok (.lconst 0, 1) := by decide +kernel
theorem dX12_nameOf_3 : decode cX12_nameOf 3 = .ok (.bipush 10, 2) := by decide +kernel
theorem dX12_nameOf_5 : decode cX12_nameOf 5 = .ok (.aload_n 0, 1) := by decide +kernel
theorem dX12_nameOf_6 : decode cX12_nameOf 6 = .ok (.getfield 13, 3) := by decide +kernel
theorem dX12_nameOf_9 : decode cX12_nameOf 9 = .ok (.invokestatic 121, 3) := by decide +kernel
theorem dX12_nameOf_12 : decode cX12_nameOf 12 = .ok (.iconst 1, 1) := by decide +kernel
theorem dX12_nameOf_13 : decode cX12_nameOf 13 = .ok (.isub, 1) := by decide +kernel
theorem dX12_nameOf_14 : decode cX12_nameOf 14 = .ok (.i2l, 1) := by decide +kernel
theorem dX12_nameOf_15 : decode cX12_nameOf 15 = .ok (.invokestatic 65, 3) := by decide +kernel
theorem dX12_nameOf_18 : decode cX12_nameOf 18 = .ok (.ifCond .ne 6, 3) := by decide +kernel
theorem dX12_nameOf_21 : decode cX12_nameOf 21 = .ok (.bipush (-9), 2) := by decide +kernel
theorem dX12_nameOf_23 : decode cX12_nameOf 23 = .ok (.ireturn, 1) := by decide +kernel
theorem dX12_nameOf_24 : decode cX12_nameOf 24 = .ok (.iconst 0, 1) := by decide +kernel
theorem dX12_nameOf_25 : decode cX12_nameOf 25 = .ok (.istore_n 2, 1) := by decide +kernel
theorem dX12_nameOf_26 : decode cX12_nameOf 26 = .ok (.iconst 1, 1) := by decide +kernel
theorem dX12_nameOf_27 : decode cX12_nameOf 27 = .ok (.istore_n 3, 1) := by decide +kernel
theorem dX12_nameOf_28 : decode cX12_nameOf 28 = .ok (.iconst 0, 1) := by decide +kernel
theorem dX12_nameOf_29 : decode cX12_nameOf 29 = .ok (.istore 4, 2) := by decide +kernel
theorem dX12_nameOf_31 : decode cX12_nameOf 31 = .ok (.iload 4, 2) := by decide +kernel
theorem dX12_nameOf_33 : decode cX12_nameOf 33 = .ok (.aload_n 0, 1) := by decide +kernel
theorem dX12_nameOf_34 : decode cX12_nameOf 34 = .ok (.getfield 13, 3) := by decide +kernel
theorem dX12_nameOf_37 : decode cX12_nameOf 37 = .ok (.if_icmp .ge 53, 3) := by decide +kernel
theorem dX12_nameOf_40 : decode cX12_nameOf 40 = .ok (.iload_n 1, 1) := by decide +kernel
theorem dX12_nameOf_41 : decode cX12_nameOf 41 = .ok (.bipush 10, 2) := by decide +kernel
theorem dX12_nameOf_43 : decode cX12_nameOf 43 = .ok (.aload_n 0, 1) := by decide +kernel
theorem dX12_nameOf_44 : decode cX12_nameOf 44 = .ok (.getfield 13, 3) := by decide +kernel
theorem dX12_nameOf_47 : decode cX12_nameOf 47 = .ok (.iconst 1, 1) := by decide +kernel
theorem dX12_nameOf_48 : decode cX12_nameOf 48 = .ok (.isub, 1) := by decide +kernel
theorem dX12_nameOf_49 : decode cX12_nameOf 49 = .ok (.iload 4, 2) := by decide +kernel
theorem dX12_nameOf_51 : decode cX12_nameOf 51 = .ok (.isub, 1) := by decide +kernel
theorem dX12_nameOf_52 : decode cX12_nameOf 52 = .ok (.invokestatic 121, 3) := by decide +kernel
theorem dX12_nameOf_55 : decode cX12_nameOf 55 = .ok (.idiv, 1) := by decide +kernel
theorem dX12_nameOf_56 : decode cX12_nameOf 56 = .ok (.bipush 10, 2) := by decide +kernel
theorem dX12_nameOf_58 : decode cX12_nameOf 58 = .ok (.irem, 1) := by decide +kernel
theorem dX12_nameOf_59 : decode cX12_nameOf 59 = .ok (.istore 5, 2) := by decide +kernel
theorem dX12_nameOf_61 : decode cX12_nameOf 61 = .ok (.iload_n 3, 1) := by decide +kernel
theorem dX12_nameOf_62 : decode cX12_nameOf 62 = .ok (.ifCond .eq 13, 3) := by decide +kernel
theorem dX12_nameOf_65 : decode cX12_nameOf 65 = .ok (.iload 5, 2) := by decide +kernel
theorem dX12_nameOf_67 : decode cX12_nameOf 67 = .ok (.iconst 4, 1) := by decide +kernel
theorem dX12_nameOf_68 : decode cX12_nameOf 68 = .ok (.if_icmp .ge 7, 3) := by decide +kernel
theorem dX12_nameOf_71 : decode cX12_nameOf 71 = .ok (.iconst 1, 1) := by decide +kernel
theorem dX12_nameOf_72 : decode cX12_nameOf 72 = .ok (.goto 4, 3) := by decide +kernel
theorem dX12_nameOf_75 : decode cX12_nameOf 75 = .ok (.iconst 0, 1) := by decide +kernel
theorem dX12_nameOf_76 : decode cX12_nameOf 76 = .ok (.istore_n 3, 1) := by decide +kernel
theorem dX12_nameOf_77 : decode cX12_nameOf 77 = .ok (.iconst 4, 1) := by decide +kernel
theorem dX12_nameOf_78 : decode cX12_nameOf 78 = .ok (.iload_n 2, 1) := by decide +kernel
theorem dX12_nameOf_79 : decode cX12_nameOf 79 = .ok (.imul, 1) := by decide +kernel
theorem dX12_nameOf_80 : decode cX12_nameOf 80 = .ok (.iload 5, 2) := by decide +kernel
theorem dX12_nameOf_82 : decode cX12_nameOf 82 = .ok (.iadd, 1) := by decide +kernel
theorem dX12_nameOf_83 : decode cX12_nameOf 83 = .ok (.istore_n 2, 1) := by decide +kernel
theorem dX12_nameOf_84 : decode cX12_nameOf 84 = .ok (.iinc 4 1, 3) := by decide +kernel
theorem dX12_nameOf_87 : decode cX12_nameOf 87 = .ok (.goto (-56), 3) := by decide +kernel
theorem dX12_nameOf_90 : decode cX12_nameOf 90 = .ok (.iload_n 3, 1) := by decide +kernel
theorem dX12_nameOf_91 : decode cX12_nameOf 91 = .ok (.ifCond .eq 7, 3) := by decide +kernel
theorem dX12_nameOf_94 : decode cX12_nameOf 94 = .ok (.iload_n 2, 1) := by decide +kernel
theorem dX12_nameOf_95 : decode cX12_nameOf 95 = .ok (.goto 5, 3) := by decide +kernel
theorem dX12_nameOf_98 : decode cX12_nameOf 98 = .ok (.bipush (-9), 2) := by decide +kernel
theorem dX12_nameOf_100 : decode cX12_nameOf 100 = .ok (.ireturn, 1) := by decide +kernel
theorem dX12_names_0 : decode cX12_names 0 = .ok (.iconst 4, 1) := by decide +kernel
theorem dX12_names_1 : decode cX12_names 1 = .ok (.aload_n 0, 1) := by decide +kernel
theorem dX12_names_2 : decode cX12_names 2 = .ok (.getfield 13, 3) := by decide +kernel
theorem dX12_names_5 : decode cX12_names 5 = .ok (.invokestatic 121, 3) := by decide +kernel
theorem dX12_names_8 : decode cX12_names 8 = .ok (.ireturn, 1) := by decide +kernel
theorem dX12_doesRead_0 : decode cX12_doesRead 0 = .ok (.aload_n 1, 1) := by decide +kernel
theorem dX12_doesRead_1 : decode cX12_doesRead 1 = .ok (.iconst 1, 1) := by decide +kernel
theorem dX12_doesRead_2 : decode cX12_doesRead 2 = .ok (.iaload, 1) := by decide +kernel
theorem dX12_doesRead_3 : decode cX12_doesRead 3 = .ok (.aload_n 0, 1) := by decide +kernel
theorem dX12_doesRead_4 : decode cX12_doesRead 4 = .ok (.getfield 17, 3) := by decide +kernel
theorem dX12_doesRead_7 : decode cX12_doesRead 7 = .ok (.iload_n 2, 1) := by decide +kernel
theorem dX12_doesRead_8 : decode cX12_doesRead 8 = .ok (.iaload, 1) := by decide +kernel
theorem dX12_doesRead_9 : decode cX12_doesRead 9 = .ok (.irem, 1) := by decide +kernel
theorem dX12_doesRead_10 : decode cX12_doesRead 10 = .ok (.aload_n 0, 1) := by decide +kernel
theorem dX12_doesRead_11 : decode cX12_doesRead 11 = .ok (.getfield 20, 3) := by decide +kernel
theorem dX12_doesRead_14 : decode cX12_doesRead 14 = .ok (.iload_n 2, 1) := by decide +kernel
theorem dX12_doesRead_15 : decode cX12_doesRead 15 = .ok (.iaload, 1) := by decide +kernel
theorem dX12_doesRead_16 : decode cX12_doesRead 16 = .ok (.if_icmp .ne 7, 3) := by decide +kernel
theorem dX12_doesRead_19 : decode cX12_doesRead 19 = .ok (.iconst 1, 1) := by decide +kernel
theorem dX12_doesRead_20 : decode cX12_doesRead 20 = .ok (.goto 4, 3) := by decide +kernel
theorem dX12_doesRead_23 : decode cX12_doesRead 23 = .ok (.iconst 0, 1) := by decide +kernel
theorem dX12_doesRead_24 : decode cX12_doesRead 24 = .ok (.ireturn, 1) := by decide +kernel
theorem dX12_about_0 : decode cX12_about 0 = .ok (.aload_n 0, 1) := by decide +kernel
theorem dX12_about_1 : decode cX12_about 1 = .ok (.iconst 0, 1) := by decide +kernel
theorem dX12_about_2 : decode cX12_about 2 = .ok (.putfield 57, 3) := by decide +kernel
theorem dX12_about_5 : decode cX12_about 5 = .ok (.iconst 0, 1) := by decide +kernel
theorem dX12_about_6 : decode cX12_about 6 = .ok (.istore_n 2, 1) := by decide +kernel
theorem dX12_about_7 : decode cX12_about 7 = .ok (.iconst 0, 1) := by decide +kernel
theorem dX12_about_8 : decode cX12_about 8 = .ok (.istore_n 3, 1) := by decide +kernel
theorem dX12_about_9 : decode cX12_about 9 = .ok (.iconst 0, 1) := by decide +kernel
theorem dX12_about_10 : decode cX12_about 10 = .ok (.istore 4, 2) := by decide +kernel
theorem dX12_about_12 : decode cX12_about 12 = .ok (.iload 4, 2) := by decide +kernel
theorem dX12_about_14 : decode cX12_about 14 = .ok (.aload_n 0, 1) := by decide +kernel
theorem dX12_about_15 : decode cX12_about 15 = .ok (.getfield 69, 3) := by decide +kernel
theorem dX12_about_18 : decode cX12_about 18 = .ok (.if_icmp .ge 60, 3) := by decide +kernel
theorem dX12_about_21 : decode cX12_about 21 = .ok (.iload_n 2, 1) := by decide +kernel
theorem dX12_about_22 : decode cX12_about 22 = .ok (.aload_n 0, 1) := by decide +kernel
theorem dX12_about_23 : decode cX12_about 23 = .ok (.aload_n 0, 1) := by decide +kernel
theorem dX12_about_24 : decode cX12_about 24 = .ok (.getfield 32, 3) := by decide +kernel
theorem dX12_about_27 : decode cX12_about 27 = .ok (.iload 4, 2) := by decide +kernel
theorem dX12_about_29 : decode cX12_about 29 = .ok (.invokevirtual 131, 3) := by decide +kernel
theorem dX12_about_32 : decode cX12_about 32 = .ok (.ifCond .eq 10, 3) := by decide +kernel
theorem dX12_about_35 : decode cX12_about 35 = .ok (.iconst 1, 1) := by decide +kernel
theorem dX12_about_36 : decode cX12_about 36 = .ok (.iload 4, 2) := by decide +kernel
theorem dX12_about_38 : decode cX12_about 38 = .ok (.ishl, 1) := by decide +kernel
theorem dX12_about_39 : decode cX12_about 39 = .ok (.goto 4, 3) := by decide +kernel
theorem dX12_about_42 : decode cX12_about 42 = .ok (.iconst 0, 1) := by decide +kernel
theorem dX12_about_43 : decode cX12_about 43 = .ok (.ior, 1) := by decide +kernel
theorem dX12_about_44 : decode cX12_about 44 = .ok (.istore_n 2, 1) := by decide +kernel
theorem dX12_about_45 : decode cX12_about 45 = .ok (.iload_n 3, 1) := by decide +kernel
theorem dX12_about_46 : decode cX12_about 46 = .ok (.aload_n 0, 1) := by decide +kernel
theorem dX12_about_47 : decode cX12_about 47 = .ok (.getfield 32, 3) := by decide +kernel
theorem dX12_about_50 : decode cX12_about 50 = .ok (.iconst 5, 1) := by decide +kernel
theorem dX12_about_51 : decode cX12_about 51 = .ok (.iload 4, 2) := by decide +kernel
theorem dX12_about_53 : decode cX12_about 53 = .ok (.iadd, 1) := by decide +kernel
theorem dX12_about_54 : decode cX12_about 54 = .ok (.iaload, 1) := by decide +kernel
theorem dX12_about_55 : decode cX12_about 55 = .ok (.aload_n 0, 1) := by decide +kernel
theorem dX12_about_56 : decode cX12_about 56 = .ok (.getfield 115, 3) := by decide +kernel
theorem dX12_about_59 : decode cX12_about 59 = .ok (.if_icmp .ne 10, 3) := by decide +kernel
theorem dX12_about_62 : decode cX12_about 62 = .ok (.iconst 1, 1) := by decide +kernel
theorem dX12_about_63 : decode cX12_about 63 = .ok (.iload 4, 2) := by decide +kernel
theorem dX12_about_65 : decode cX12_about 65 = .ok (.ishl, 1) := by decide +kernel
theorem dX12_about_66 : decode cX12_about 66 = .ok (.goto 4, 3) := by decide +kernel
theorem dX12_about_69 : decode cX12_about 69 = .ok (.iconst 0, 1) := by decide +kernel
theorem dX12_about_70 : decode cX12_about 70 = .ok (.ior, 1) := by decide +kernel
theorem dX12_about_71 : decode cX12_about 71 = .ok (.istore_n 3, 1) := by decide +kernel
theorem dX12_about_72 : decode cX12_about 72 = .ok (.iinc 4 1, 3) := by decide +kernel
theorem dX12_about_75 : decode cX12_about 75 = .ok (.goto (-63), 3) := by decide +kernel
theorem dX12_about_78 : decode cX12_about 78 = .ok (.iload_n 1, 1) := by decide +kernel
theorem dX12_about_79 : decode cX12_about 79 = .ok (.tableswitch 124 0 10 #[57, 62, 67, 72, 81, 92, 103, 110, 112, 114, 119], 57) := by decide +kernel
theorem dX12_about_136 : decode cX12_about 136 = .ok (.aload_n 0, 1) := by decide +kernel
theorem dX12_about_137 : decode cX12_about 137 = .ok (.getfield 62, 3) := by decide +kernel
theorem dX12_about_140 : decode cX12_about 140 = .ok (.ireturn, 1) := by decide +kernel
theorem dX12_about_141 : decode cX12_about 141 = .ok (.aload_n 0, 1) := by decide +kernel
theorem dX12_about_142 : decode cX12_about 142 = .ok (.getfield 69, 3) := by decide +kernel
theorem dX12_about_145 : decode cX12_about 145 = .ok (.ireturn, 1) := by decide +kernel
theorem dX12_about_146 : decode cX12_about 146 = .ok (.aload_n 0, 1) := by decide +kernel
theorem dX12_about_147 : decode cX12_about 147 = .ok (.getfield 13, 3) := by decide +kernel
theorem dX12_about_150 : decode cX12_about 150 = .ok (.ireturn, 1) := by decide +kernel
theorem dX12_about_151 : decode cX12_about 151 = .ok (.aload_n 0, 1) := by decide +kernel
theorem dX12_about_152 : decode cX12_about 152 = .ok (.aload_n 0, 1) := by decide +kernel
theorem dX12_about_153 : decode cX12_about 153 = .ok (.getfield 115, 3) := by decide +kernel
theorem dX12_about_156 : decode cX12_about 156 = .ok (.invokevirtual 135, 3) := by decide +kernel
theorem dX12_about_159 : decode cX12_about 159 = .ok (.ireturn, 1) := by decide +kernel
theorem dX12_about_160 : decode cX12_about 160 = .ok (.aload_n 0, 1) := by decide +kernel
theorem dX12_about_161 : decode cX12_about 161 = .ok (.aload_n 0, 1) := by decide +kernel
theorem dX12_about_162 : decode cX12_about 162 = .ok (.getfield 32, 3) := by decide +kernel
theorem dX12_about_165 : decode cX12_about 165 = .ok (.iconst 0, 1) := by decide +kernel
theorem dX12_about_166 : decode cX12_about 166 = .ok (.iaload, 1) := by decide +kernel
theorem dX12_about_167 : decode cX12_about 167 = .ok (.invokevirtual 135, 3) := by decide +kernel
theorem dX12_about_170 : decode cX12_about 170 = .ok (.ireturn, 1) := by decide +kernel
theorem dX12_about_171 : decode cX12_about 171 = .ok (.aload_n 0, 1) := by decide +kernel
theorem dX12_about_172 : decode cX12_about 172 = .ok (.aload_n 0, 1) := by decide +kernel
theorem dX12_about_173 : decode cX12_about 173 = .ok (.getfield 32, 3) := by decide +kernel
theorem dX12_about_176 : decode cX12_about 176 = .ok (.iconst 0, 1) := by decide +kernel
theorem dX12_about_177 : decode cX12_about 177 = .ok (.iaload, 1) := by decide +kernel
theorem dX12_about_178 : decode cX12_about 178 = .ok (.invokevirtual 139, 3) := by decide +kernel
theorem dX12_about_181 : decode cX12_about 181 = .ok (.ireturn, 1) := by decide +kernel
theorem dX12_about_182 : decode cX12_about 182 = .ok (.aload_n 0, 1) := by decide +kernel
theorem dX12_about_183 : decode cX12_about 183 = .ok (.getfield 32, 3) := by decide +kernel
theorem dX12_about_186 : decode cX12_about 186 = .ok (.iconst 1, 1) := by decide +kernel
theorem dX12_about_187 : decode cX12_about 187 = .ok (.iaload, 1) := by decide +kernel
theorem dX12_about_188 : decode cX12_about 188 = .ok (.ireturn, 1) := by decide +kernel
theorem dX12_about_189 : decode cX12_about 189 = .ok (.iload_n 2, 1) := by decide +kernel
theorem dX12_about_190 : decode cX12_about 190 = .ok (.ireturn, 1) := by decide +kernel
theorem dX12_about_191 : decode cX12_about 191 = .ok (.iload_n 3, 1) := by decide +kernel
theorem dX12_about_192 : decode cX12_about 192 = .ok (.ireturn, 1) := by decide +kernel
theorem dX12_about_193 : decode cX12_about 193 = .ok (.aload_n 0, 1) := by decide +kernel
theorem dX12_about_194 : decode cX12_about 194 = .ok (.getfield 118, 3) := by decide +kernel
theorem dX12_about_197 : decode cX12_about 197 = .ok (.ireturn, 1) := by decide +kernel
theorem dX12_about_198 : decode cX12_about 198 = .ok (.aload_n 0, 1) := by decide +kernel
theorem dX12_about_199 : decode cX12_about 199 = .ok (.getfield 76, 3) := by decide +kernel
theorem dX12_about_202 : decode cX12_about 202 = .ok (.ireturn, 1) := by decide +kernel
theorem dX12_about_203 : decode cX12_about 203 = .ok (.bipush (-2), 2) := by decide +kernel
theorem dX12_about_205 : decode cX12_about 205 = .ok (.ireturn, 1) := by decide +kernel
theorem dX12_kind_0 : decode cX12_kind 0 = .ok (.aload_n 0, 1) := by decide +kernel
theorem dX12_kind_1 : decode cX12_kind 1 = .ok (.iconst 0, 1) := by decide +kernel
theorem dX12_kind_2 : decode cX12_kind 2 = .ok (.putfield 57, 3) := by decide +kernel
theorem dX12_kind_5 : decode cX12_kind 5 = .ok (.aload_n 0, 1) := by decide +kernel
theorem dX12_kind_6 : decode cX12_kind 6 = .ok (.iload_n 1, 1) := by decide +kernel
theorem dX12_kind_7 : decode cX12_kind 7 = .ok (.invokevirtual 142, 3) := by decide +kernel
theorem dX12_kind_10 : decode cX12_kind 10 = .ok (.ifCond .eq 7, 3) := by decide +kernel
theorem dX12_kind_13 : decode cX12_kind 13 = .ok (.iconst (-1), 1) := by decide +kernel
theorem dX12_kind_14 : decode cX12_kind 14 = .ok (.goto 11, 3) := by decide +kernel
theorem dX12_kind_17 : decode cX12_kind 17 = .ok (.aload_n 0, 1) := by decide +kernel
theorem dX12_kind_18 : decode cX12_kind 18 = .ok (.getfield 32, 3) := by decide +kernel
theorem dX12_kind_21 : decode cX12_kind 21 = .ok (.iconst 2, 1) := by decide +kernel
theorem dX12_kind_22 : decode cX12_kind 22 = .ok (.iload_n 1, 1) := by decide +kernel
theorem dX12_kind_23 : decode cX12_kind 23 = .ok (.iadd, 1) := by decide +kernel
theorem dX12_kind_24 : decode cX12_kind 24 = .ok (.iaload, 1) := by decide +kernel
theorem dX12_kind_25 : decode cX12_kind 25 = .ok (.ireturn, 1) := by decide +kernel
theorem dX12_reader_0 : decode cX12_reader 0 = .ok (.aload_n 0, 1) := by decide +kernel
theorem dX12_reader_1 : decode cX12_reader 1 = .ok (.iconst 0, 1) := by decide +kernel
theorem dX12_reader_2 : decode cX12_reader 2 = .ok (.putfield 57, 3) := by decide +kernel
theorem dX12_reader_5 : decode cX12_reader 5 = .ok (.aload_n 0, 1) := by decide +kernel
theorem dX12_reader_6 : decode cX12_reader 6 = .ok (.iload_n 1, 1) := by decide +kernel
theorem dX12_reader_7 : decode cX12_reader 7 = .ok (.invokevirtual 146, 3) := by decide +kernel
theorem dX12_reader_10 : decode cX12_reader 10 = .ok (.ifCond .eq 5, 3) := by decide +kernel
theorem dX12_reader_13 : decode cX12_reader 13 = .ok (.iconst (-1), 1) := by decide +kernel
theorem dX12_reader_14 : decode cX12_reader 14 = .ok (.ireturn, 1) := by decide +kernel
theorem dX12_reader_15 : decode cX12_reader 15 = .ok (.iload_n 2, 1) := by decide +kernel
theorem dX12_reader_16 : decode cX12_reader 16 = .ok (.tableswitch 72 0 3 #[32, 39, 46, 59], 32) := by decide +kernel
theorem dX12_reader_48 : decode cX12_reader 48 = .ok (.aload_n 0, 1) := by decide +kernel
theorem dX12_reader_49 : decode cX12_reader 49 = .ok (.getfield 17, 3) := by decide +kernel
theorem dX12_reader_52 : decode cX12_reader 52 = .ok (.iload_n 1, 1) := by decide +kernel
theorem dX12_reader_53 : decode cX12_reader 53 = .ok (.iaload, 1) := by decide +kernel
theorem dX12_reader_54 : decode cX12_reader 54 = .ok (.ireturn, 1) := by decide +kernel
theorem dX12_reader_55 : decode cX12_reader 55 = .ok (.aload_n 0, 1) := by decide +kernel
theorem dX12_reader_56 : decode cX12_reader 56 = .ok (.getfield 20, 3) := by decide +kernel
theorem dX12_reader_59 : decode cX12_reader 59 = .ok (.iload_n 1, 1) := by decide +kernel
theorem dX12_reader_60 : decode cX12_reader 60 = .ok (.iaload, 1) := by decide +kernel
theorem dX12_reader_61 : decode cX12_reader 61 = .ok (.ireturn, 1) := by decide +kernel
theorem dX12_reader_62 : decode cX12_reader 62 = .ok (.aload_n 0, 1) := by decide +kernel
theorem dX12_reader_63 : decode cX12_reader 63 = .ok (.aload_n 0, 1) := by decide +kernel
theorem dX12_reader_64 : decode cX12_reader 64 = .ok (.getfield 32, 3) := by decide +kernel
theorem dX12_reader_67 : decode cX12_reader 67 = .ok (.iconst 5, 1) := by decide +kernel
theorem dX12_reader_68 : decode cX12_reader 68 = .ok (.iload_n 1, 1) := by decide +kernel
theorem dX12_reader_69 : decode cX12_reader 69 = .ok (.iadd, 1) := by decide +kernel
theorem dX12_reader_70 : decode cX12_reader 70 = .ok (.iaload, 1) := by decide +kernel
theorem dX12_reader_71 : decode cX12_reader 71 = .ok (.invokevirtual 135, 3) := by decide +kernel
theorem dX12_reader_74 : decode cX12_reader 74 = .ok (.ireturn, 1) := by decide +kernel
theorem dX12_reader_75 : decode cX12_reader 75 = .ok (.aload_n 0, 1) := by decide +kernel
theorem dX12_reader_76 : decode cX12_reader 76 = .ok (.aload_n 0, 1) := by decide +kernel
theorem dX12_reader_77 : decode cX12_reader 77 = .ok (.getfield 32, 3) := by decide +kernel
theorem dX12_reader_80 : decode cX12_reader 80 = .ok (.iconst 5, 1) := by decide +kernel
theorem dX12_reader_81 : decode cX12_reader 81 = .ok (.iload_n 1, 1) := by decide +kernel
theorem dX12_reader_82 : decode cX12_reader 82 = .ok (.iadd, 1) := by decide +kernel
theorem dX12_reader_83 : decode cX12_reader 83 = .ok (.iaload, 1) := by decide +kernel
theorem dX12_reader_84 : decode cX12_reader 84 = .ok (.invokevirtual 139, 3) := by decide +kernel
theorem dX12_reader_87 : decode cX12_reader 87 = .ok (.ireturn, 1) := by decide +kernel
theorem dX12_reader_88 : decode cX12_reader 88 = .ok (.bipush (-2), 2) := by decide +kernel
theorem dX12_reader_90 : decode cX12_reader 90 = .ok (.ireturn, 1) := by decide +kernel
theorem dX12_note_0 : decode cX12_note 0 = .ok (.aload_n 0, 1) := by decide +kernel
theorem dX12_note_1 : decode cX12_note 1 = .ok (.getfield 118, 3) := by decide +kernel
theorem dX12_note_4 : decode cX12_note 4 = .ok (.bipush 14, 2) := by decide +kernel
theorem dX12_note_6 : decode cX12_note 6 = .ok (.if_icmp .ne 42, 3) := by decide +kernel
theorem dX12_note_9 : decode cX12_note 9 = .ok (.iconst 0, 1) := by decide +kernel
theorem dX12_note_10 : decode cX12_note 10 = .ok (.istore_n 1, 1) := by decide +kernel
theorem dX12_note_11 : decode cX12_note 11 = .ok (.iload_n 1, 1) := by decide +kernel
theorem dX12_note_12 : decode cX12_note 12 = .ok (.bipush 117, 2) := by decide +kernel
theorem dX12_note_14 : decode cX12_note 14 = .ok (.if_icmp .ge 24, 3) := by decide +kernel
theorem dX12_note_17 : decode cX12_note 17 = .ok (.aload_n 0, 1) := by decide +kernel
theorem dX12_note_18 : decode cX12_note 18 = .ok (.getfield 38, 3) := by decide +kernel
theorem dX12_note_21 : decode cX12_note 21 = .ok (.iload_n 1, 1) := by decide +kernel
theorem dX12_note_22 : decode cX12_note 22 = .ok (.aload_n 0, 1) := by decide +kernel
theorem dX12_note_23 : decode cX12_note 23 = .ok (.getfield 38, 3) := by decide +kernel
theorem dX12_note_26 : decode cX12_note 26 = .ok (.iload_n 1, 1) := by decide +kernel
theorem dX12_note_27 : decode cX12_note 27 = .ok (.bipush 9, 2) := by decide +kernel
theorem dX12_note_29 : decode cX12_note 29 = .ok (.iadd, 1) := by decide +kernel
theorem dX12_note_30 : decode cX12_note 30 = .ok (.iaload, 1) := by decide +kernel
theorem dX12_note_31 : decode cX12_note 31 = .ok (.iastore, 1) := by decide +kernel
theorem dX12_note_32 : decode cX12_note 32 = .ok (.iinc 1 1, 3) := by decide +kernel
theorem dX12_note_35 : decode cX12_note 35 = .ok (.goto (-24), 3) := by decide +kernel
theorem dX12_note_38 : decode cX12_note 38 = .ok (.aload_n 0, 1) := by decide +kernel
theorem dX12_note_39 : decode cX12_note 39 = .ok (.dup, 1) := by decide +kernel
theorem dX12_note_40 : decode cX12_note 40 = .ok (.getfield 118, 3) := by decide +kernel
theorem dX12_note_43 : decode cX12_note 43 = .ok (.iconst 1, 1) := by decide +kernel
theorem dX12_note_44 : decode cX12_note 44 = .ok (.isub, 1) := by decide +kernel
theorem dX12_note_45 : decode cX12_note 45 = .ok (.putfield 118, 3) := by decide +kernel
theorem dX12_note_48 : decode cX12_note 48 = .ok (.iconst 0, 1) := by decide +kernel
theorem dX12_note_49 : decode cX12_note 49 = .ok (.istore_n 1, 1) := by decide +kernel
theorem dX12_note_50 : decode cX12_note 50 = .ok (.iload_n 1, 1) := by decide +kernel
theorem dX12_note_51 : decode cX12_note 51 = .ok (.bipush 9, 2) := by decide +kernel
theorem dX12_note_53 : decode cX12_note 53 = .ok (.if_icmp .ge 29, 3) := by decide +kernel
theorem dX12_note_56 : decode cX12_note 56 = .ok (.aload_n 0, 1) := by decide +kernel
theorem dX12_note_57 : decode cX12_note 57 = .ok (.getfield 38, 3) := by decide +kernel
theorem dX12_note_60 : decode cX12_note 60 = .ok (.bipush 9, 2) := by decide +kernel
theorem dX12_note_62 : decode cX12_note 62 = .ok (.aload_n 0, 1) := by decide +kernel
theorem dX12_note_63 : decode cX12_note 63 = .ok (.getfield 118, 3) := by decide +kernel
theorem dX12_note_66 : decode cX12_note 66 = .ok (.imul, 1) := by decide +kernel
theorem dX12_note_67 : decode cX12_note 67 = .ok (.iload_n 1, 1) := by decide +kernel
theorem dX12_note_68 : decode cX12_note 68 = .ok (.iadd, 1) := by decide +kernel
theorem dX12_note_69 : decode cX12_note 69 = .ok (.aload_n 0, 1) := by decide +kernel
theorem dX12_note_70 : decode cX12_note 70 = .ok (.getfield 32, 3) := by decide +kernel
theorem dX12_note_73 : decode cX12_note 73 = .ok (.iload_n 1, 1) := by decide +kernel
theorem dX12_note_74 : decode cX12_note 74 = .ok (.iaload, 1) := by decide +kernel
theorem dX12_note_75 : decode cX12_note 75 = .ok (.iastore, 1) := by decide +kernel
theorem dX12_note_76 : decode cX12_note 76 = .ok (.iinc 1 1, 3) := by decide +kernel
theorem dX12_note_79 : decode cX12_note 79 = .ok (.goto (-29), 3) := by decide +kernel
theorem dX12_note_82 : decode cX12_note 82 = .ok (.aload_n 0, 1) := by decide +kernel
theorem dX12_note_83 : decode cX12_note 83 = .ok (.dup, 1) := by decide +kernel
theorem dX12_note_84 : decode cX12_note 84 = .ok (.getfield 118, 3) := by decide +kernel
theorem dX12_note_87 : decode cX12_note 87 = .ok (.iconst 1, 1) := by decide +kernel
theorem dX12_note_88 : decode cX12_note 88 = .ok (.iadd, 1) := by decide +kernel
theorem dX12_note_89 : decode cX12_note 89 = .ok (.putfield 118, 3) := by decide +kernel
theorem dX12_note_92 : decode cX12_note 92 = .ok (.return_, 1) := by decide +kernel
theorem dX12_goPrint_0 : decode cX12_goPrint 0 = .ok (.aload_n 1, 1) := by decide +kernel
theorem dX12_goPrint_1 : decode cX12_goPrint 1 = .ok (.iconst 0, 1) := by decide +kernel
theorem dX12_goPrint_2 : decode cX12_goPrint 2 = .ok (.aload_n 0, 1) := by decide +kernel
theorem dX12_goPrint_3 : decode cX12_goPrint 3 = .ok (.aload_n 1, 1) := by decide +kernel
theorem dX12_goPrint_4 : decode cX12_goPrint 4 = .ok (.iconst 0, 1) := by decide +kernel
theorem dX12_goPrint_5 : decode cX12_goPrint 5 = .ok (.iaload, 1) := by decide +kernel
theorem dX12_goPrint_6 : decode cX12_goPrint 6 = .ok (.aload_n 1, 1) := by decide +kernel
theorem dX12_goPrint_7 : decode cX12_goPrint 7 = .ok (.iconst 2, 1) := by decide +kernel
theorem dX12_goPrint_8 : decode cX12_goPrint 8 = .ok (.iload_n 2, 1) := by decide +kernel
theorem dX12_goPrint_9 : decode cX12_goPrint 9 = .ok (.iadd, 1) := by decide +kernel
theorem dX12_goPrint_10 : decode cX12_goPrint 10 = .ok (.iaload, 1) := by decide +kernel
theorem dX12_goPrint_11 : decode cX12_goPrint 11 = .ok (.iload_n 3, 1) := by decide +kernel
theorem dX12_goPrint_12 : decode cX12_goPrint 12 = .ok (.iload 4, 2) := by decide +kernel
theorem dX12_goPrint_14 : decode cX12_goPrint 14 = .ok (.invokevirtual 149, 3) := by decide +kernel
theorem dX12_goPrint_17 : decode cX12_goPrint 17 = .ok (.iastore, 1) := by decide +kernel
theorem dX12_goPrint_18 : decode cX12_goPrint 18 = .ok (.iconst 0, 1) := by decide +kernel
theorem dX12_goPrint_19 : decode cX12_goPrint 19 = .ok (.istore 5, 2) := by decide +kernel
theorem dX12_goPrint_21 : decode cX12_goPrint 21 = .ok (.iload 5, 2) := by decide +kernel
theorem dX12_goPrint_23 : decode cX12_goPrint 23 = .ok (.aload_n 0, 1) := by decide +kernel
theorem dX12_goPrint_24 : decode cX12_goPrint 24 = .ok (.getfield 69, 3) := by decide +kernel
theorem dX12_goPrint_27 : decode cX12_goPrint 27 = .ok (.if_icmp .ge 43, 3) := by decide +kernel
theorem dX12_goPrint_30 : decode cX12_goPrint 30 = .ok (.aload_n 0, 1) := by decide +kernel
theorem dX12_goPrint_31 : decode cX12_goPrint 31 = .ok (.aload_n 1, 1) := by decide +kernel
theorem dX12_goPrint_32 : decode cX12_goPrint 32 = .ok (.iload 5, 2) := by decide +kernel
theorem dX12_goPrint_34 : decode cX12_goPrint 34 = .ok (.invokevirtual 131, 3) := by decide +kernel
theorem dX12_goPrint_37 : decode cX12_goPrint 37 = .ok (.ifCond .eq 27, 3) := by decide +kernel
theorem dX12_goPrint_40 : decode cX12_goPrint 40 = .ok (.aload_n 1, 1) := by decide +kernel
theorem dX12_goPrint_41 : decode cX12_goPrint 41 = .ok (.iconst 5, 1) := by decide +kernel
theorem dX12_goPrint_42 : decode cX12_goPrint 42 = .ok (.iload 5, 2) := by decide +kernel
theorem dX12_goPrint_44 : decode cX12_goPrint 44 = .ok (.iadd, 1) := by decide +kernel
theorem dX12_goPrint_45 : decode cX12_goPrint 45 = .ok (.aload_n 0, 1) := by decide +kernel
theorem dX12_goPrint_46 : decode cX12_goPrint 46 = .ok (.aload_n 1, 1) := by decide +kernel
theorem dX12_goPrint_47 : decode cX12_goPrint 47 = .ok (.iconst 5, 1) := by decide +kernel
theorem dX12_goPrint_48 : decode cX12_goPrint 48 = .ok (.iload 5, 2) := by decide +kernel
theorem dX12_goPrint_50 : decode cX12_goPrint 50 = .ok (.iadd, 1) := by decide +kernel
theorem dX12_goPrint_51 : decode cX12_goPrint 51 = .ok (.iaload, 1) := by decide +kernel
theorem dX12_goPrint_52 : decode cX12_goPrint 52 = .ok (.aload_n 1, 1) := by decide +kernel
theorem dX12_goPrint_53 : decode cX12_goPrint 53 = .ok (.iconst 2, 1) := by decide +kernel
theorem dX12_goPrint_54 : decode cX12_goPrint 54 = .ok (.iload_n 2, 1) := by decide +kernel
theorem dX12_goPrint_55 : decode cX12_goPrint 55 = .ok (.iadd, 1) := by decide +kernel
theorem dX12_goPrint_56 : decode cX12_goPrint 56 = .ok (.iaload, 1) := by decide +kernel
theorem dX12_goPrint_57 : decode cX12_goPrint 57 = .ok (.iload_n 3, 1) := by decide +kernel
theorem dX12_goPrint_58 : decode cX12_goPrint 58 = .ok (.iload 4, 2) := by decide +kernel
theorem dX12_goPrint_60 : decode cX12_goPrint 60 = .ok (.invokevirtual 149, 3) := by decide +kernel
theorem dX12_goPrint_63 : decode cX12_goPrint 63 = .ok (.iastore, 1) := by decide +kernel
theorem dX12_goPrint_64 : decode cX12_goPrint 64 = .ok (.iinc 5 1, 3) := by decide +kernel
theorem dX12_goPrint_67 : decode cX12_goPrint 67 = .ok (.goto (-46), 3) := by decide +kernel
theorem dX12_goPrint_70 : decode cX12_goPrint 70 = .ok (.aload_n 1, 1) := by decide +kernel
theorem dX12_goPrint_71 : decode cX12_goPrint 71 = .ok (.iconst 1, 1) := by decide +kernel
theorem dX12_goPrint_72 : decode cX12_goPrint 72 = .ok (.dup2, 1) := by decide +kernel
theorem dX12_goPrint_73 : decode cX12_goPrint 73 = .ok (.iaload, 1) := by decide +kernel
theorem dX12_goPrint_74 : decode cX12_goPrint 74 = .ok (.iconst 1, 1) := by decide +kernel
theorem dX12_goPrint_75 : decode cX12_goPrint 75 = .ok (.iadd, 1) := by decide +kernel
theorem dX12_goPrint_76 : decode cX12_goPrint 76 = .ok (.iastore, 1) := by decide +kernel
theorem dX12_goPrint_77 : decode cX12_goPrint 77 = .ok (.return_, 1) := by decide +kernel
theorem dX12_print_0 : decode cX12_print 0 = .ok (.aload_n 0, 1) := by decide +kernel
theorem dX12_print_1 : decode cX12_print 1 = .ok (.iconst 0, 1) := by decide +kernel
theorem dX12_print_2 : decode cX12_print 2 = .ok (.putfield 57, 3) := by decide +kernel
theorem dX12_print_5 : decode cX12_print 5 = .ok (.aload_n 0, 1) := by decide +kernel
theorem dX12_print_6 : decode cX12_print 6 = .ok (.iload_n 1, 1) := by decide +kernel
theorem dX12_print_7 : decode cX12_print 7 = .ok (.invokevirtual 142, 3) := by decide +kernel
theorem dX12_print_10 : decode cX12_print 10 = .ok (.ifCond .eq 5, 3) := by decide +kernel
theorem dX12_print_13 : decode cX12_print 13 = .ok (.iconst (-1), 1) := by decide +kernel
theorem dX12_print_14 : decode cX12_print 14 = .ok (.ireturn, 1) := by decide +kernel
theorem dX12_print_15 : decode cX12_print 15 = .ok (.aload_n 0, 1) := by decide +kernel
theorem dX12_print_16 : decode cX12_print 16 = .ok (.iload_n 2, 1) := by decide +kernel
theorem dX12_print_17 : decode cX12_print 17 = .ok (.invokevirtual 153, 3) := by decide +kernel
theorem dX12_print_20 : decode cX12_print 20 = .ok (.ifCond .ne 10, 3) := by decide +kernel
theorem dX12_print_23 : decode cX12_print 23 = .ok (.iload_n 3, 1) := by decide +kernel
theorem dX12_print_24 : decode cX12_print 24 = .ok (.invokestatic 156, 3) := by decide +kernel
theorem dX12_print_27 : decode cX12_print 27 = .ok (.ifCond .eq 6, 3) := by decide +kernel
theorem dX12_print_30 : decode cX12_print 30 = .ok (.bipush (-2), 2) := by decide +kernel
theorem dX12_print_32 : decode cX12_print 32 = .ok (.ireturn, 1) := by decide +kernel
theorem dX12_print_33 : decode cX12_print 33 = .ok (.aload_n 0, 1) := by decide +kernel
theorem dX12_print_34 : decode cX12_print 34 = .ok (.invokevirtual 159, 3) := by decide +kernel
theorem dX12_print_37 : decode cX12_print 37 = .ok (.aload_n 0, 1) := by decide +kernel
theorem dX12_print_38 : decode cX12_print 38 = .ok (.aload_n 0, 1) := by decide +kernel
theorem dX12_print_39 : decode cX12_print 39 = .ok (.getfield 32, 3) := by decide +kernel
theorem dX12_print_42 : decode cX12_print 42 = .ok (.iload_n 1, 1) := by decide +kernel
theorem dX12_print_43 : decode cX12_print 43 = .ok (.iload_n 2, 1) := by decide +kernel
theorem dX12_print_44 : decode cX12_print 44 = .ok (.iload_n 3, 1) := by decide +kernel
theorem dX12_print_45 : decode cX12_print 45 = .ok (.invokevirtual 162, 3) := by decide +kernel
theorem dX12_print_48 : decode cX12_print 48 = .ok (.aload_n 0, 1) := by decide +kernel
theorem dX12_print_49 : decode cX12_print 49 = .ok (.aload_n 0, 1) := by decide +kernel
theorem dX12_print_50 : decode cX12_print 50 = .ok (.getfield 32, 3) := by decide +kernel
theorem dX12_print_53 : decode cX12_print 53 = .ok (.iconst 0, 1) := by decide +kernel
theorem dX12_print_54 : decode cX12_print 54 = .ok (.iaload, 1) := by decide +kernel
theorem dX12_print_55 : decode cX12_print 55 = .ok (.invokevirtual 135, 3) := by decide +kernel
theorem dX12_print_58 : decode cX12_print 58 = .ok (.ireturn, 1) := by decide +kernel
theorem dX12_quiet_0 : decode cX12_quiet 0 = .ok (.aload_n 0, 1) := by decide +kernel
theorem dX12_quiet_1 : decode cX12_quiet 1 = .ok (.iconst 0, 1) := by decide +kernel
theorem dX12_quiet_2 : decode cX12_quiet 2 = .ok (.putfield 57, 3) := by decide +kernel
theorem dX12_quiet_5 : decode cX12_quiet 5 = .ok (.aload_n 0, 1) := by decide +kernel
theorem dX12_quiet_6 : decode cX12_quiet 6 = .ok (.invokevirtual 159, 3) := by decide +kernel
theorem dX12_quiet_9 : decode cX12_quiet 9 = .ok (.aload_n 0, 1) := by decide +kernel
theorem dX12_quiet_10 : decode cX12_quiet 10 = .ok (.getfield 32, 3) := by decide +kernel
theorem dX12_quiet_13 : decode cX12_quiet 13 = .ok (.iconst 1, 1) := by decide +kernel
theorem dX12_quiet_14 : decode cX12_quiet 14 = .ok (.dup2, 1) := by decide +kernel
theorem dX12_quiet_15 : decode cX12_quiet 15 = .ok (.iaload, 1) := by decide +kernel
theorem dX12_quiet_16 : decode cX12_quiet 16 = .ok (.iconst 1, 1) := by decide +kernel
theorem dX12_quiet_17 : decode cX12_quiet 17 = .ok (.iadd, 1) := by decide +kernel
theorem dX12_quiet_18 : decode cX12_quiet 18 = .ok (.iastore, 1) := by decide +kernel
theorem dX12_quiet_19 : decode cX12_quiet 19 = .ok (.aload_n 0, 1) := by decide +kernel
theorem dX12_quiet_20 : decode cX12_quiet 20 = .ok (.getfield 32, 3) := by decide +kernel
theorem dX12_quiet_23 : decode cX12_quiet 23 = .ok (.iconst 1, 1) := by decide +kernel
theorem dX12_quiet_24 : decode cX12_quiet 24 = .ok (.iaload, 1) := by decide +kernel
theorem dX12_quiet_25 : decode cX12_quiet 25 = .ok (.ireturn, 1) := by decide +kernel
theorem dX12_tell_0 : decode cX12_tell 0 = .ok (.aload_n 0, 1) := by decide +kernel
theorem dX12_tell_1 : decode cX12_tell 1 = .ok (.iconst 0, 1) := by decide +kernel
theorem dX12_tell_2 : decode cX12_tell 2 = .ok (.putfield 57, 3) := by decide +kernel
theorem dX12_tell_5 : decode cX12_tell 5 = .ok (.aload_n 0, 1) := by decide +kernel
theorem dX12_tell_6 : decode cX12_tell 6 = .ok (.iload_n 1, 1) := by decide +kernel
theorem dX12_tell_7 : decode cX12_tell 7 = .ok (.invokevirtual 146, 3) := by decide +kernel
theorem dX12_tell_10 : decode cX12_tell 10 = .ok (.ifCond .ne 11, 3) := by decide +kernel
theorem dX12_tell_13 : decode cX12_tell 13 = .ok (.aload_n 0, 1) := by decide +kernel
theorem dX12_tell_14 : decode cX12_tell 14 = .ok (.iload_n 2, 1) := by decide +kernel
theorem dX12_tell_15 : decode cX12_tell 15 = .ok (.invokevirtual 146, 3) := by decide +kernel
theorem dX12_tell_18 : decode cX12_tell 18 = .ok (.ifCond .eq 5, 3) := by decide +kernel
theorem dX12_tell_21 : decode cX12_tell 21 = .ok (.iconst (-1), 1) := by decide +kernel
theorem dX12_tell_22 : decode cX12_tell 22 = .ok (.ireturn, 1) := by decide +kernel
theorem dX12_tell_23 : decode cX12_tell 23 = .ok (.iload_n 1, 1) := by decide +kernel
theorem dX12_tell_24 : decode cX12_tell 24 = .ok (.iload_n 2, 1) := by decide +kernel
theorem dX12_tell_25 : decode cX12_tell 25 = .ok (.if_icmp .ne 6, 3) := by decide +kernel
theorem dX12_tell_28 : decode cX12_tell 28 = .ok (.bipush (-2), 2) := by decide +kernel
theorem dX12_tell_30 : decode cX12_tell 30 = .ok (.ireturn, 1) := by decide +kernel
theorem dX12_tell_31 : decode cX12_tell 31 = .ok (.aload_n 0, 1) := by decide +kernel
theorem dX12_tell_32 : decode cX12_tell 32 = .ok (.getfield 32, 3) := by decide +kernel
theorem dX12_tell_35 : decode cX12_tell 35 = .ok (.iconst 5, 1) := by decide +kernel
theorem dX12_tell_36 : decode cX12_tell 36 = .ok (.iload_n 1, 1) := by decide +kernel
theorem dX12_tell_37 : decode cX12_tell 37 = .ok (.iadd, 1) := by decide +kernel
theorem dX12_tell_38 : decode cX12_tell 38 = .ok (.iaload, 1) := by decide +kernel
theorem dX12_tell_39 : decode cX12_tell 39 = .ok (.aload_n 0, 1) := by decide +kernel
theorem dX12_tell_40 : decode cX12_tell 40 = .ok (.getfield 32, 3) := by decide +kernel
theorem dX12_tell_43 : decode cX12_tell 43 = .ok (.iconst 5, 1) := by decide +kernel
theorem dX12_tell_44 : decode cX12_tell 44 = .ok (.iload_n 2, 1) := by decide +kernel
theorem dX12_tell_45 : decode cX12_tell 45 = .ok (.iadd, 1) := by decide +kernel
theorem dX12_tell_46 : decode cX12_tell 46 = .ok (.iaload, 1) := by decide +kernel
theorem dX12_tell_47 : decode cX12_tell 47 = .ok (.if_icmp .ne 6, 3) := by decide +kernel
theorem dX12_tell_50 : decode cX12_tell 50 = .ok (.bipush (-3), 2) := by decide +kernel
theorem dX12_tell_52 : decode cX12_tell 52 = .ok (.ireturn, 1) := by decide +kernel
theorem dX12_tell_53 : decode cX12_tell 53 = .ok (.aload_n 0, 1) := by decide +kernel
theorem dX12_tell_54 : decode cX12_tell 54 = .ok (.invokevirtual 159, 3) := by decide +kernel
theorem dX12_tell_57 : decode cX12_tell 57 = .ok (.aload_n 0, 1) := by decide +kernel
theorem dX12_tell_58 : decode cX12_tell 58 = .ok (.getfield 32, 3) := by decide +kernel
theorem dX12_tell_61 : decode cX12_tell 61 = .ok (.iconst 5, 1) := by decide +kernel
theorem dX12_tell_62 : decode cX12_tell 62 = .ok (.iload_n 1, 1) := by decide +kernel
theorem dX12_tell_63 : decode cX12_tell 63 = .ok (.iadd, 1) := by decide +kernel
theorem dX12_tell_64 : decode cX12_tell 64 = .ok (.aload_n 0, 1) := by decide +kernel
theorem dX12_tell_65 : decode cX12_tell 65 = .ok (.getfield 32, 3) := by decide +kernel
theorem dX12_tell_68 : decode cX12_tell 68 = .ok (.iconst 5, 1) := by decide +kernel
theorem dX12_tell_69 : decode cX12_tell 69 = .ok (.iload_n 2, 1) := by decide +kernel
theorem dX12_tell_70 : decode cX12_tell 70 = .ok (.iadd, 1) := by decide +kernel
theorem dX12_tell_71 : decode cX12_tell 71 = .ok (.iaload, 1) := by decide +kernel
theorem dX12_tell_72 : decode cX12_tell 72 = .ok (.iastore, 1) := by decide +kernel
theorem dX12_tell_73 : decode cX12_tell 73 = .ok (.aload_n 0, 1) := by decide +kernel
theorem dX12_tell_74 : decode cX12_tell 74 = .ok (.aload_n 0, 1) := by decide +kernel
theorem dX12_tell_75 : decode cX12_tell 75 = .ok (.getfield 32, 3) := by decide +kernel
theorem dX12_tell_78 : decode cX12_tell 78 = .ok (.iconst 5, 1) := by decide +kernel
theorem dX12_tell_79 : decode cX12_tell 79 = .ok (.iload_n 1, 1) := by decide +kernel
theorem dX12_tell_80 : decode cX12_tell 80 = .ok (.iadd, 1) := by decide +kernel
theorem dX12_tell_81 : decode cX12_tell 81 = .ok (.iaload, 1) := by decide +kernel
theorem dX12_tell_82 : decode cX12_tell 82 = .ok (.invokevirtual 135, 3) := by decide +kernel
theorem dX12_tell_85 : decode cX12_tell 85 = .ok (.ireturn, 1) := by decide +kernel
theorem dX12_learn_0 : decode cX12_learn 0 = .ok (.aload_n 0, 1) := by decide +kernel
theorem dX12_learn_1 : decode cX12_learn 1 = .ok (.iconst 0, 1) := by decide +kernel
theorem dX12_learn_2 : decode cX12_learn 2 = .ok (.putfield 57, 3) := by decide +kernel
theorem dX12_learn_5 : decode cX12_learn 5 = .ok (.aload_n 0, 1) := by decide +kernel
theorem dX12_learn_6 : decode cX12_learn 6 = .ok (.iload_n 1, 1) := by decide +kernel
theorem dX12_learn_7 : decode cX12_learn 7 = .ok (.invokevirtual 142, 3) := by decide +kernel
theorem dX12_learn_10 : decode cX12_learn 10 = .ok (.ifCond .eq 5, 3) := by decide +kernel
theorem dX12_learn_13 : decode cX12_learn 13 = .ok (.iconst (-1), 1) := by decide +kernel
theorem dX12_learn_14 : decode cX12_learn 14 = .ok (.ireturn, 1) := by decide +kernel
theorem dX12_learn_15 : decode cX12_learn 15 = .ok (.iload_n 2, 1) := by decide +kernel
theorem dX12_learn_16 : decode cX12_learn 16 = .ok (.i2l, 1) := by decide +kernel
theorem dX12_learn_17 : decode cX12_learn 17 = .ok (.lconst 0, 1) := by decide +kernel
theorem dX12_learn_18 : decode cX12_learn 18 = .ok (.ldc2_w 72, 3) := by decide +kernel
theorem dX12_learn_21 : decode cX12_learn 21 = .ok (.invokestatic 65, 3) := by decide +kernel
theorem dX12_learn_24 : decode cX12_learn 24 = .ok (.ifCond .ne 6, 3) := by decide +kernel
theorem dX12_learn_27 : decode cX12_learn 27 = .ok (.bipush (-2), 2) := by decide +kernel
theorem dX12_learn_29 : decode cX12_learn 29 = .ok (.ireturn, 1) := by decide +kernel
theorem dX12_learn_30 : decode cX12_learn 30 = .ok (.aload_n 0, 1) := by decide +kernel
theorem dX12_learn_31 : decode cX12_learn 31 = .ok (.getfield 32, 3) := by decide +kernel
theorem dX12_learn_34 : decode cX12_learn 34 = .ok (.iconst 2, 1) := by decide +kernel
theorem dX12_learn_35 : decode cX12_learn 35 = .ok (.iload_n 1, 1) := by decide +kernel
theorem dX12_learn_36 : decode cX12_learn 36 = .ok (.iadd, 1) := by decide +kernel
theorem dX12_learn_37 : decode cX12_learn 37 = .ok (.iaload, 1) := by decide +kernel
theorem dX12_learn_38 : decode cX12_learn 38 = .ok (.istore_n 3, 1) := by decide +kernel
theorem dX12_learn_39 : decode cX12_learn 39 = .ok (.iload_n 3, 1) := by decide +kernel
theorem dX12_learn_40 : decode cX12_learn 40 = .ok (.iload_n 2, 1) := by decide +kernel
theorem dX12_learn_41 : decode cX12_learn 41 = .ok (.if_icmp .ne 6, 3) := by decide +kernel
theorem dX12_learn_44 : decode cX12_learn 44 = .ok (.bipush (-3), 2) := by decide +kernel
theorem dX12_learn_46 : decode cX12_learn 46 = .ok (.ireturn, 1) := by decide +kernel
theorem dX12_learn_47 : decode cX12_learn 47 = .ok (.aload_n 0, 1) := by decide +kernel
theorem dX12_learn_48 : decode cX12_learn 48 = .ok (.invokevirtual 159, 3) := by decide +kernel
theorem dX12_learn_51 : decode cX12_learn 51 = .ok (.aload_n 0, 1) := by decide +kernel
theorem dX12_learn_52 : decode cX12_learn 52 = .ok (.getfield 32, 3) := by decide +kernel
theorem dX12_learn_55 : decode cX12_learn 55 = .ok (.iconst 2, 1) := by decide +kernel
theorem dX12_learn_56 : decode cX12_learn 56 = .ok (.iload_n 1, 1) := by decide +kernel
theorem dX12_learn_57 : decode cX12_learn 57 = .ok (.iadd, 1) := by decide +kernel
theorem dX12_learn_58 : decode cX12_learn 58 = .ok (.iload_n 2, 1) := by decide +kernel
theorem dX12_learn_59 : decode cX12_learn 59 = .ok (.iastore, 1) := by decide +kernel
theorem dX12_learn_60 : decode cX12_learn 60 = .ok (.iload_n 3, 1) := by decide +kernel
theorem dX12_learn_61 : decode cX12_learn 61 = .ok (.ireturn, 1) := by decide +kernel
theorem dX12_undo_0 : decode cX12_undo 0 = .ok (.aload_n 0, 1) := by decide +kernel
theorem dX12_undo_1 : decode cX12_undo 1 = .ok (.iconst 0, 1) := by decide +kernel
theorem dX12_undo_2 : decode cX12_undo 2 = .ok (.putfield 57, 3) := by decide +kernel
theorem dX12_undo_5 : decode cX12_undo 5 = .ok (.aload_n 0, 1) := by decide +kernel
theorem dX12_undo_6 : decode cX12_undo 6 = .ok (.getfield 118, 3) := by decide +kernel
theorem dX12_undo_9 : decode cX12_undo 9 = .ok (.ifCond .ne 6, 3) := by decide +kernel
theorem dX12_undo_12 : decode cX12_undo 12 = .ok (.bipush (-3), 2) := by decide +kernel
theorem dX12_undo_14 : decode cX12_undo 14 = .ok (.ireturn, 1) := by decide +kernel
theorem dX12_undo_15 : decode cX12_undo 15 = .ok (.aload_n 0, 1) := by decide +kernel
theorem dX12_undo_16 : decode cX12_undo 16 = .ok (.dup, 1) := by decide +kernel
theorem dX12_undo_17 : decode cX12_undo 17 = .ok (.getfield 118, 3) := by decide +kernel
theorem dX12_undo_20 : decode cX12_undo 20 = .ok (.iconst 1, 1) := by decide +kernel
theorem dX12_undo_21 : decode cX12_undo 21 = .ok (.isub, 1) := by decide +kernel
theorem dX12_undo_22 : decode cX12_undo 22 = .ok (.putfield 118, 3) := by decide +kernel
theorem dX12_undo_25 : decode cX12_undo 25 = .ok (.iconst 0, 1) := by decide +kernel
theorem dX12_undo_26 : decode cX12_undo 26 = .ok (.istore_n 1, 1) := by decide +kernel
theorem dX12_undo_27 : decode cX12_undo 27 = .ok (.iload_n 1, 1) := by decide +kernel
theorem dX12_undo_28 : decode cX12_undo 28 = .ok (.bipush 9, 2) := by decide +kernel
theorem dX12_undo_30 : decode cX12_undo 30 = .ok (.if_icmp .ge 29, 3) := by decide +kernel
theorem dX12_undo_33 : decode cX12_undo 33 = .ok (.aload_n 0, 1) := by decide +kernel
theorem dX12_undo_34 : decode cX12_undo 34 = .ok (.getfield 32, 3) := by decide +kernel
theorem dX12_undo_37 : decode cX12_undo 37 = .ok (.iload_n 1, 1) := by decide +kernel
theorem dX12_undo_38 : decode cX12_undo 38 = .ok (.aload_n 0, 1) := by decide +kernel
theorem dX12_undo_39 : decode cX12_undo 39 = .ok (.getfield 38, 3) := by decide +kernel
theorem dX12_undo_42 : decode cX12_undo 42 = .ok (.bipush 9, 2) := by decide +kernel
theorem dX12_undo_44 : decode cX12_undo 44 = .ok (.aload_n 0, 1) := by decide +kernel
theorem dX12_undo_45 : decode cX12_undo 45 = .ok (.getfield 118, 3) := by decide +kernel
theorem dX12_undo_48 : decode cX12_undo 48 = .ok (.imul, 1) := by decide +kernel
theorem dX12_undo_49 : decode cX12_undo 49 = .ok (.iload_n 1, 1) := by decide +kernel
theorem dX12_undo_50 : decode cX12_undo 50 = .ok (.iadd, 1) := by decide +kernel
theorem dX12_undo_51 : decode cX12_undo 51 = .ok (.iaload, 1) := by decide +kernel
theorem dX12_undo_52 : decode cX12_undo 52 = .ok (.iastore, 1) := by decide +kernel
theorem dX12_undo_53 : decode cX12_undo 53 = .ok (.iinc 1 1, 3) := by decide +kernel
theorem dX12_undo_56 : decode cX12_undo 56 = .ok (.goto (-29), 3) := by decide +kernel
theorem dX12_undo_59 : decode cX12_undo 59 = .ok (.aload_n 0, 1) := by decide +kernel
theorem dX12_undo_60 : decode cX12_undo 60 = .ok (.getfield 118, 3) := by decide +kernel
theorem dX12_undo_63 : decode cX12_undo 63 = .ok (.ireturn, 1) := by decide +kernel
theorem dX12_noNotice_0 : decode cX12_noNotice 0 = .ok (.aload_n 0, 1) := by decide +kernel
theorem dX12_noNotice_1 : decode cX12_noNotice 1 = .ok (.iload_n 1, 1) := by decide +kernel
theorem dX12_noNotice_2 : decode cX12_noNotice 2 = .ok (.bipush 100, 2) := by decide +kernel
theorem dX12_noNotice_4 : decode cX12_noNotice 4 = .ok (.idiv, 1) := by decide +kernel
theorem dX12_noNotice_5 : decode cX12_noNotice 5 = .ok (.invokevirtual 142, 3) := by decide +kernel
theorem dX12_noNotice_8 : decode cX12_noNotice 8 = .ok (.ifCond .ne 27, 3) := by decide +kernel
theorem dX12_noNotice_11 : decode cX12_noNotice 11 = .ok (.aload_n 0, 1) := by decide +kernel
theorem dX12_noNotice_12 : decode cX12_noNotice 12 = .ok (.iload_n 1, 1) := by decide +kernel
theorem dX12_noNotice_13 : decode cX12_noNotice 13 = .ok (.bipush 10, 2) := by decide +kernel
theorem dX12_noNotice_15 : decode cX12_noNotice 15 = .ok (.idiv, 1) := by decide +kernel
theorem dX12_noNotice_16 : decode cX12_noNotice 16 = .ok (.bipush 10, 2) := by decide +kernel
theorem dX12_noNotice_18 : decode cX12_noNotice 18 = .ok (.irem, 1) := by decide +kernel
theorem dX12_noNotice_19 : decode cX12_noNotice 19 = .ok (.invokevirtual 153, 3) := by decide +kernel
theorem dX12_noNotice_22 : decode cX12_noNotice 22 = .ok (.ifCond .ne 13, 3) := by decide +kernel
theorem dX12_noNotice_25 : decode cX12_noNotice 25 = .ok (.iload_n 1, 1) := by decide +kernel
theorem dX12_noNotice_26 : decode cX12_noNotice 26 = .ok (.bipush 10, 2) := by decide +kernel
theorem dX12_noNotice_28 : decode cX12_noNotice 28 = .ok (.irem, 1) := by decide +kernel
theorem dX12_noNotice_29 : decode cX12_noNotice 29 = .ok (.invokestatic 156, 3) := by decide +kernel
theorem dX12_noNotice_32 : decode cX12_noNotice 32 = .ok (.ifCond .eq 7, 3) := by decide +kernel
theorem dX12_noNotice_35 : decode cX12_noNotice 35 = .ok (.iconst 1, 1) := by decide +kernel
theorem dX12_noNotice_36 : decode cX12_noNotice 36 = .ok (.goto 4, 3) := by decide +kernel
theorem dX12_noNotice_39 : decode cX12_noNotice 39 = .ok (.iconst 0, 1) := by decide +kernel
theorem dX12_noNotice_40 : decode cX12_noNotice 40 = .ok (.ireturn, 1) := by decide +kernel
theorem dX12_threeOf_0 : decode cX12_threeOf 0 = .ok (.lload_n 1, 1) := by decide +kernel
theorem dX12_threeOf_1 : decode cX12_threeOf 1 = .ok (.iload_n 0, 1) := by decide +kernel
theorem dX12_threeOf_2 : decode cX12_threeOf 2 = .ok (.iconst 1, 1) := by decide +kernel
theorem dX12_threeOf_3 : decode cX12_threeOf 3 = .ok (.isub, 1) := by decide +kernel
theorem dX12_threeOf_4 : decode cX12_threeOf 4 = .ok (.iload_n 3, 1) := by decide +kernel
theorem dX12_threeOf_5 : decode cX12_threeOf 5 = .ok (.isub, 1) := by decide +kernel
theorem dX12_threeOf_6 : decode cX12_threeOf 6 = .ok (.invokestatic 166, 3) := by decide +kernel
theorem dX12_threeOf_9 : decode cX12_threeOf 9 = .ok (.ldiv, 1) := by decide +kernel
theorem dX12_threeOf_10 : decode cX12_threeOf 10 = .ok (.ldc2_w 60, 3) := by decide +kernel
theorem dX12_threeOf_13 : decode cX12_threeOf 13 = .ok (.lrem, 1) := by decide +kernel
theorem dX12_threeOf_14 : decode cX12_threeOf 14 = .ok (.l2i, 1) := by decide +kernel
theorem dX12_threeOf_15 : decode cX12_threeOf 15 = .ok (.ireturn, 1) := by decide +kernel
theorem dX12_noRow_0 : decode cX12_noRow 0 = .ok (.iload_n 1, 1) := by decide +kernel
theorem dX12_noRow_1 : decode cX12_noRow 1 = .ok (.i2l, 1) := by decide +kernel
theorem dX12_noRow_2 : decode cX12_noRow 2 = .ok (.lconst 1, 1) := by decide +kernel
theorem dX12_noRow_3 : decode cX12_noRow 3 = .ok (.iload_n 2, 1) := by decide +kernel
theorem dX12_noRow_4 : decode cX12_noRow 4 = .ok (.i2l, 1) := by decide +kernel
end
section
theorem dX12_noRow_5 : decode cX12_noRow 5 = .ok (.invokestatic 65, 3) := by decide +kernel
theorem dX12_noRow_8 : decode cX12_noRow 8 = .ok (.ifCond .eq 17, 3) := by decide +kernel
theorem dX12_noRow_11 : decode cX12_noRow 11 = .ok (.lload_n 3, 1) := by decide +kernel
theorem dX12_noRow_12 : decode cX12_noRow 12 = .ok (.lconst 0, 1) := by decide +kernel
theorem dX12_noRow_13 : decode cX12_noRow 13 = .ok (.iload_n 1, 1) := by decide +kernel
theorem dX12_noRow_14 : decode cX12_noRow 14 = .ok (.invokestatic 166, 3) := by decide +kernel
theorem dX12_noRow_17 : decode cX12_noRow 17 = .ok (.lconst 1, 1) := by decide +kernel
theorem dX12_noRow_18 : decode cX12_noRow 18 = .ok (.lsub, 1) := by decide +kernel
theorem dX12_noRow_19 : decode cX12_noRow 19 = .ok (.invokestatic 65, 3) := by decide +kernel
theorem dX12_noRow_22 : decode cX12_noRow 22 = .ok (.ifCond .ne 5, 3) := by decide +kernel
theorem dX12_noRow_25 : decode cX12_noRow 25 = .ok (.iconst 1, 1) := by decide +kernel
theorem dX12_noRow_26 : decode cX12_noRow 26 = .ok (.ireturn, 1) := by decide +kernel
theorem dX12_noRow_27 : decode cX12_noRow 27 = .ok (.iconst 1, 1) := by decide +kernel
theorem dX12_noRow_28 : decode cX12_noRow 28 = .ok (.istore 5, 2) := by decide +kernel
theorem dX12_noRow_30 : decode cX12_noRow 30 = .ok (.iconst 0, 1) := by decide +kernel
theorem dX12_noRow_31 : decode cX12_noRow 31 = .ok (.istore 6, 2) := by decide +kernel
theorem dX12_noRow_33 : decode cX12_noRow 33 = .ok (.iload 6, 2) := by decide +kernel
theorem dX12_noRow_35 : decode cX12_noRow 35 = .ok (.iload_n 1, 1) := by decide +kernel
theorem dX12_noRow_36 : decode cX12_noRow 36 = .ok (.if_icmp .ge 35, 3) := by decide +kernel
theorem dX12_noRow_39 : decode cX12_noRow 39 = .ok (.iload 5, 2) := by decide +kernel
theorem dX12_noRow_41 : decode cX12_noRow 41 = .ok (.ifCond .eq 21, 3) := by decide +kernel
theorem dX12_noRow_44 : decode cX12_noRow 44 = .ok (.aload_n 0, 1) := by decide +kernel
theorem dX12_noRow_45 : decode cX12_noRow 45 = .ok (.iload_n 1, 1) := by decide +kernel
theorem dX12_noRow_46 : decode cX12_noRow 46 = .ok (.lload_n 3, 1) := by decide +kernel
theorem dX12_noRow_47 : decode cX12_noRow 47 = .ok (.iload 6, 2) := by decide +kernel
theorem dX12_noRow_49 : decode cX12_noRow 49 = .ok (.invokestatic 170, 3) := by decide +kernel
theorem dX12_noRow_52 : decode cX12_noRow 52 = .ok (.invokevirtual 174, 3) := by decide +kernel
theorem dX12_noRow_55 : decode cX12_noRow 55 = .ok (.ifCond .ne 7, 3) := by decide +kernel
theorem dX12_noRow_58 : decode cX12_noRow 58 = .ok (.iconst 1, 1) := by decide +kernel
theorem dX12_noRow_59 : decode cX12_noRow 59 = .ok (.goto 4, 3) := by decide +kernel
theorem dX12_noRow_62 : decode cX12_noRow 62 = .ok (.iconst 0, 1) := by decide +kernel
theorem dX12_noRow_63 : decode cX12_noRow 63 = .ok (.istore 5, 2) := by decide +kernel
theorem dX12_noRow_65 : decode cX12_noRow 65 = .ok (.iinc 6 1, 3) := by decide +kernel
theorem dX12_noRow_68 : decode cX12_noRow 68 = .ok (.goto (-35), 3) := by decide +kernel
theorem dX12_noRow_71 : decode cX12_noRow 71 = .ok (.iload 5, 2) := by decide +kernel
theorem dX12_noRow_73 : decode cX12_noRow 73 = .ok (.ifCond .ne 7, 3) := by decide +kernel
theorem dX12_noRow_76 : decode cX12_noRow 76 = .ok (.iconst 1, 1) := by decide +kernel
theorem dX12_noRow_77 : decode cX12_noRow 77 = .ok (.goto 4, 3) := by decide +kernel
theorem dX12_noRow_80 : decode cX12_noRow 80 = .ok (.iconst 0, 1) := by decide +kernel
theorem dX12_noRow_81 : decode cX12_noRow 81 = .ok (.ireturn, 1) := by decide +kernel
theorem dX12_noticed_0 : decode cX12_noticed 0 = .ok (.aload_n 0, 1) := by decide +kernel
theorem dX12_noticed_1 : decode cX12_noticed 1 = .ok (.iload_n 1, 1) := by decide +kernel
theorem dX12_noticed_2 : decode cX12_noticed 2 = .ok (.aload_n 0, 1) := by decide +kernel
theorem dX12_noticed_3 : decode cX12_noticed 3 = .ok (.getfield 32, 3) := by decide +kernel
theorem dX12_noticed_6 : decode cX12_noticed 6 = .ok (.iconst 2, 1) := by decide +kernel
theorem dX12_noticed_7 : decode cX12_noticed 7 = .ok (.iload_n 2, 1) := by decide +kernel
theorem dX12_noticed_8 : decode cX12_noticed 8 = .ok (.bipush 100, 2) := by decide +kernel
theorem dX12_noticed_10 : decode cX12_noticed 10 = .ok (.idiv, 1) := by decide +kernel
theorem dX12_noticed_11 : decode cX12_noticed 11 = .ok (.iadd, 1) := by decide +kernel
theorem dX12_noticed_12 : decode cX12_noticed 12 = .ok (.iaload, 1) := by decide +kernel
theorem dX12_noticed_13 : decode cX12_noticed 13 = .ok (.iload_n 2, 1) := by decide +kernel
theorem dX12_noticed_14 : decode cX12_noticed 14 = .ok (.bipush 10, 2) := by decide +kernel
theorem dX12_noticed_16 : decode cX12_noticed 16 = .ok (.idiv, 1) := by decide +kernel
theorem dX12_noticed_17 : decode cX12_noticed 17 = .ok (.bipush 10, 2) := by decide +kernel
theorem dX12_noticed_19 : decode cX12_noticed 19 = .ok (.irem, 1) := by decide +kernel
theorem dX12_noticed_20 : decode cX12_noticed 20 = .ok (.iload_n 2, 1) := by decide +kernel
theorem dX12_noticed_21 : decode cX12_noticed 21 = .ok (.bipush 10, 2) := by decide +kernel
theorem dX12_noticed_23 : decode cX12_noticed 23 = .ok (.irem, 1) := by decide +kernel
theorem dX12_noticed_24 : decode cX12_noticed 24 = .ok (.invokevirtual 149, 3) := by decide +kernel
theorem dX12_noticed_27 : decode cX12_noticed 27 = .ok (.ireturn, 1) := by decide +kernel
theorem dX12_afterRow_0 : decode cX12_afterRow 0 = .ok (.iload_n 1, 1) := by decide +kernel
theorem dX12_afterRow_1 : decode cX12_afterRow 1 = .ok (.istore 5, 2) := by decide +kernel
theorem dX12_afterRow_3 : decode cX12_afterRow 3 = .ok (.iconst 0, 1) := by decide +kernel
theorem dX12_afterRow_4 : decode cX12_afterRow 4 = .ok (.istore 6, 2) := by decide +kernel
theorem dX12_afterRow_6 : decode cX12_afterRow 6 = .ok (.iload 6, 2) := by decide +kernel
theorem dX12_afterRow_8 : decode cX12_afterRow 8 = .ok (.iload_n 2, 1) := by decide +kernel
theorem dX12_afterRow_9 : decode cX12_afterRow 9 = .ok (.if_icmp .ge 24, 3) := by decide +kernel
theorem dX12_afterRow_12 : decode cX12_afterRow 12 = .ok (.aload_n 0, 1) := by decide +kernel
theorem dX12_afterRow_13 : decode cX12_afterRow 13 = .ok (.iload 5, 2) := by decide +kernel
theorem dX12_afterRow_15 : decode cX12_afterRow 15 = .ok (.iload_n 2, 1) := by decide +kernel
theorem dX12_afterRow_16 : decode cX12_afterRow 16 = .ok (.lload_n 3, 1) := by decide +kernel
theorem dX12_afterRow_17 : decode cX12_afterRow 17 = .ok (.iload 6, 2) := by decide +kernel
theorem dX12_afterRow_19 : decode cX12_afterRow 19 = .ok (.invokestatic 170, 3) := by decide +kernel
theorem dX12_afterRow_22 : decode cX12_afterRow 22 = .ok (.invokevirtual 177, 3) := by decide +kernel
theorem dX12_afterRow_25 : decode cX12_afterRow 25 = .ok (.istore 5, 2) := by decide +kernel
theorem dX12_afterRow_27 : decode cX12_afterRow 27 = .ok (.iinc 6 1, 3) := by decide +kernel
theorem dX12_afterRow_30 : decode cX12_afterRow 30 = .ok (.goto (-24), 3) := by decide +kernel
theorem dX12_afterRow_33 : decode cX12_afterRow 33 = .ok (.iload 5, 2) := by decide +kernel
theorem dX12_afterRow_35 : decode cX12_afterRow 35 = .ok (.ireturn, 1) := by decide +kernel
theorem dX12_after_0 : decode cX12_after 0 = .ok (.aload_n 0, 1) := by decide +kernel
theorem dX12_after_1 : decode cX12_after 1 = .ok (.iconst 0, 1) := by decide +kernel
theorem dX12_after_2 : decode cX12_after 2 = .ok (.putfield 57, 3) := by decide +kernel
theorem dX12_after_5 : decode cX12_after 5 = .ok (.aload_n 0, 1) := by decide +kernel
theorem dX12_after_6 : decode cX12_after 6 = .ok (.iload_n 1, 1) := by decide +kernel
theorem dX12_after_7 : decode cX12_after 7 = .ok (.invokevirtual 180, 3) := by decide +kernel
theorem dX12_after_10 : decode cX12_after 10 = .ok (.istore 5, 2) := by decide +kernel
theorem dX12_after_12 : decode cX12_after 12 = .ok (.iload 5, 2) := by decide +kernel
theorem dX12_after_14 : decode cX12_after 14 = .ok (.bipush (-9), 2) := by decide +kernel
theorem dX12_after_16 : decode cX12_after 16 = .ok (.if_icmp .eq 13, 3) := by decide +kernel
theorem dX12_after_19 : decode cX12_after 19 = .ok (.aload_n 0, 1) := by decide +kernel
theorem dX12_after_20 : decode cX12_after 20 = .ok (.iload_n 2, 1) := by decide +kernel
theorem dX12_after_21 : decode cX12_after 21 = .ok (.iconst 4, 1) := by decide +kernel
theorem dX12_after_22 : decode cX12_after 22 = .ok (.lload_n 3, 1) := by decide +kernel
theorem dX12_after_23 : decode cX12_after 23 = .ok (.invokevirtual 183, 3) := by decide +kernel
theorem dX12_after_26 : decode cX12_after 26 = .ok (.ifCond .eq 8, 3) := by decide +kernel
theorem dX12_after_29 : decode cX12_after 29 = .ok (.bipush (-2), 2) := by decide +kernel
theorem dX12_after_31 : decode cX12_after 31 = .ok (.goto 15, 3) := by decide +kernel
theorem dX12_after_34 : decode cX12_after 34 = .ok (.aload_n 0, 1) := by decide +kernel
theorem dX12_after_35 : decode cX12_after 35 = .ok (.aload_n 0, 1) := by decide +kernel
theorem dX12_after_36 : decode cX12_after 36 = .ok (.iload 5, 2) := by decide +kernel
theorem dX12_after_38 : decode cX12_after 38 = .ok (.iload_n 2, 1) := by decide +kernel
theorem dX12_after_39 : decode cX12_after 39 = .ok (.lload_n 3, 1) := by decide +kernel
theorem dX12_after_40 : decode cX12_after 40 = .ok (.invokevirtual 187, 3) := by decide +kernel
theorem dX12_after_43 : decode cX12_after 43 = .ok (.invokevirtual 135, 3) := by decide +kernel
theorem dX12_after_46 : decode cX12_after 46 = .ok (.ireturn, 1) := by decide +kernel
theorem dX12_begin_0 : decode cX12_begin 0 = .ok (.iconst 0, 1) := by decide +kernel
theorem dX12_begin_1 : decode cX12_begin 1 = .ok (.istore_n 1, 1) := by decide +kernel
theorem dX12_begin_2 : decode cX12_begin 2 = .ok (.iload_n 1, 1) := by decide +kernel
theorem dX12_begin_3 : decode cX12_begin 3 = .ok (.bipush 9, 2) := by decide +kernel
theorem dX12_begin_5 : decode cX12_begin 5 = .ok (.if_icmp .ge 21, 3) := by decide +kernel
theorem dX12_begin_8 : decode cX12_begin 8 = .ok (.aload_n 0, 1) := by decide +kernel
theorem dX12_begin_9 : decode cX12_begin 9 = .ok (.getfield 35, 3) := by decide +kernel
theorem dX12_begin_12 : decode cX12_begin 12 = .ok (.iload_n 1, 1) := by decide +kernel
theorem dX12_begin_13 : decode cX12_begin 13 = .ok (.aload_n 0, 1) := by decide +kernel
theorem dX12_begin_14 : decode cX12_begin 14 = .ok (.getfield 32, 3) := by decide +kernel
theorem dX12_begin_17 : decode cX12_begin 17 = .ok (.iload_n 1, 1) := by decide +kernel
theorem dX12_begin_18 : decode cX12_begin 18 = .ok (.iaload, 1) := by decide +kernel
theorem dX12_begin_19 : decode cX12_begin 19 = .ok (.iastore, 1) := by decide +kernel
theorem dX12_begin_20 : decode cX12_begin 20 = .ok (.iinc 1 1, 3) := by decide +kernel
theorem dX12_begin_23 : decode cX12_begin 23 = .ok (.goto (-21), 3) := by decide +kernel
theorem dX12_begin_26 : decode cX12_begin 26 = .ok (.return_, 1) := by decide +kernel
theorem dX12_isAllRight_0 : decode cX12_isAllRight 0 = .ok (.aload_n 0, 1) := by decide +kernel
theorem dX12_isAllRight_1 : decode cX12_isAllRight 1 = .ok (.getfield 35, 3) := by decide +kernel
theorem dX12_isAllRight_4 : decode cX12_isAllRight 4 = .ok (.iconst 0, 1) := by decide +kernel
theorem dX12_isAllRight_5 : decode cX12_isAllRight 5 = .ok (.iaload, 1) := by decide +kernel
theorem dX12_isAllRight_6 : decode cX12_isAllRight 6 = .ok (.aload_n 0, 1) := by decide +kernel
theorem dX12_isAllRight_7 : decode cX12_isAllRight 7 = .ok (.getfield 115, 3) := by decide +kernel
theorem dX12_isAllRight_10 : decode cX12_isAllRight 10 = .ok (.if_icmp .ne 7, 3) := by decide +kernel
theorem dX12_isAllRight_13 : decode cX12_isAllRight 13 = .ok (.iconst 1, 1) := by decide +kernel
theorem dX12_isAllRight_14 : decode cX12_isAllRight 14 = .ok (.goto 4, 3) := by decide +kernel
theorem dX12_isAllRight_17 : decode cX12_isAllRight 17 = .ok (.iconst 0, 1) := by decide +kernel
theorem dX12_isAllRight_18 : decode cX12_isAllRight 18 = .ok (.istore_n 1, 1) := by decide +kernel
theorem dX12_isAllRight_19 : decode cX12_isAllRight 19 = .ok (.iconst 0, 1) := by decide +kernel
theorem dX12_isAllRight_20 : decode cX12_isAllRight 20 = .ok (.istore_n 2, 1) := by decide +kernel
theorem dX12_isAllRight_21 : decode cX12_isAllRight 21 = .ok (.iload_n 2, 1) := by decide +kernel
theorem dX12_isAllRight_22 : decode cX12_isAllRight 22 = .ok (.aload_n 0, 1) := by decide +kernel
theorem dX12_isAllRight_23 : decode cX12_isAllRight 23 = .ok (.getfield 69, 3) := by decide +kernel
theorem dX12_isAllRight_26 : decode cX12_isAllRight 26 = .ok (.if_icmp .ge 34, 3) := by decide +kernel
theorem dX12_isAllRight_29 : decode cX12_isAllRight 29 = .ok (.iload_n 1, 1) := by decide +kernel
theorem dX12_isAllRight_30 : decode cX12_isAllRight 30 = .ok (.ifCond .eq 22, 3) := by decide +kernel
theorem dX12_isAllRight_33 : decode cX12_isAllRight 33 = .ok (.aload_n 0, 1) := by decide +kernel
theorem dX12_isAllRight_34 : decode cX12_isAllRight 34 = .ok (.getfield 35, 3) := by decide +kernel
theorem dX12_isAllRight_37 : decode cX12_isAllRight 37 = .ok (.iconst 5, 1) := by decide +kernel
theorem dX12_isAllRight_38 : decode cX12_isAllRight 38 = .ok (.iload_n 2, 1) := by decide +kernel
theorem dX12_isAllRight_39 : decode cX12_isAllRight 39 = .ok (.iadd, 1) := by decide +kernel
theorem dX12_isAllRight_40 : decode cX12_isAllRight 40 = .ok (.iaload, 1) := by decide +kernel
theorem dX12_isAllRight_41 : decode cX12_isAllRight 41 = .ok (.aload_n 0, 1) := by decide +kernel
theorem dX12_isAllRight_42 : decode cX12_isAllRight 42 = .ok (.getfield 115, 3) := by decide +kernel
theorem dX12_isAllRight_45 : decode cX12_isAllRight 45 = .ok (.if_icmp .ne 7, 3) := by decide +kernel
theorem dX12_isAllRight_48 : decode cX12_isAllRight 48 = .ok (.iconst 1, 1) := by decide +kernel
theorem dX12_isAllRight_49 : decode cX12_isAllRight 49 = .ok (.goto 4, 3) := by decide +kernel
theorem dX12_isAllRight_52 : decode cX12_isAllRight 52 = .ok (.iconst 0, 1) := by decide +kernel
theorem dX12_isAllRight_53 : decode cX12_isAllRight 53 = .ok (.istore_n 1, 1) := by decide +kernel
theorem dX12_isAllRight_54 : decode cX12_isAllRight 54 = .ok (.iinc 2 1, 3) := by decide +kernel
theorem dX12_isAllRight_57 : decode cX12_isAllRight 57 = .ok (.goto (-36), 3) := by decide +kernel
theorem dX12_isAllRight_60 : decode cX12_isAllRight 60 = .ok (.iload_n 1, 1) := by decide +kernel
theorem dX12_isAllRight_61 : decode cX12_isAllRight 61 = .ok (.ireturn, 1) := by decide +kernel
theorem dX12_rights_0 : decode cX12_rights 0 = .ok (.aload_n 0, 1) := by decide +kernel
theorem dX12_rights_1 : decode cX12_rights 1 = .ok (.invokevirtual 191, 3) := by decide +kernel
theorem dX12_rights_4 : decode cX12_rights 4 = .ok (.iconst 1, 1) := by decide +kernel
theorem dX12_rights_5 : decode cX12_rights 5 = .ok (.istore 4, 2) := by decide +kernel
theorem dX12_rights_7 : decode cX12_rights 7 = .ok (.iconst 0, 1) := by decide +kernel
theorem dX12_rights_8 : decode cX12_rights 8 = .ok (.istore 5, 2) := by decide +kernel
theorem dX12_rights_10 : decode cX12_rights 10 = .ok (.iload 5, 2) := by decide +kernel
theorem dX12_rights_12 : decode cX12_rights 12 = .ok (.iload_n 1, 1) := by decide +kernel
theorem dX12_rights_13 : decode cX12_rights 13 = .ok (.if_icmp .ge 71, 3) := by decide +kernel
theorem dX12_rights_16 : decode cX12_rights 16 = .ok (.iload 4, 2) := by decide +kernel
theorem dX12_rights_18 : decode cX12_rights 18 = .ok (.ifCond .eq 66, 3) := by decide +kernel
theorem dX12_rights_21 : decode cX12_rights 21 = .ok (.iload_n 1, 1) := by decide +kernel
theorem dX12_rights_22 : decode cX12_rights 22 = .ok (.iload_n 2, 1) := by decide +kernel
theorem dX12_rights_23 : decode cX12_rights 23 = .ok (.i2l, 1) := by decide +kernel
theorem dX12_rights_24 : decode cX12_rights 24 = .ok (.iload 5, 2) := by decide +kernel
theorem dX12_rights_26 : decode cX12_rights 26 = .ok (.invokestatic 170, 3) := by decide +kernel
theorem dX12_rights_29 : decode cX12_rights 29 = .ok (.istore 6, 2) := by decide +kernel
theorem dX12_rights_31 : decode cX12_rights 31 = .ok (.aload_n 0, 1) := by decide +kernel
theorem dX12_rights_32 : decode cX12_rights 32 = .ok (.iload 6, 2) := by decide +kernel
theorem dX12_rights_34 : decode cX12_rights 34 = .ok (.invokevirtual 174, 3) := by decide +kernel
theorem dX12_rights_37 : decode cX12_rights 37 = .ok (.ifCond .ne 7, 3) := by decide +kernel
theorem dX12_rights_40 : decode cX12_rights 40 = .ok (.iconst 1, 1) := by decide +kernel
theorem dX12_rights_41 : decode cX12_rights 41 = .ok (.goto 4, 3) := by decide +kernel
theorem dX12_rights_44 : decode cX12_rights 44 = .ok (.iconst 0, 1) := by decide +kernel
theorem dX12_rights_45 : decode cX12_rights 45 = .ok (.istore 4, 2) := by decide +kernel
theorem dX12_rights_47 : decode cX12_rights 47 = .ok (.iload 4, 2) := by decide +kernel
theorem dX12_rights_49 : decode cX12_rights 49 = .ok (.ifCond .eq 29, 3) := by decide +kernel
theorem dX12_rights_52 : decode cX12_rights 52 = .ok (.aload_n 0, 1) := by decide +kernel
theorem dX12_rights_53 : decode cX12_rights 53 = .ok (.aload_n 0, 1) := by decide +kernel
theorem dX12_rights_54 : decode cX12_rights 54 = .ok (.getfield 35, 3) := by decide +kernel
theorem dX12_rights_57 : decode cX12_rights 57 = .ok (.iload 6, 2) := by decide +kernel
theorem dX12_rights_59 : decode cX12_rights 59 = .ok (.bipush 100, 2) := by decide +kernel
theorem dX12_rights_61 : decode cX12_rights 61 = .ok (.idiv, 1) := by decide +kernel
theorem dX12_rights_62 : decode cX12_rights 62 = .ok (.iload 6, 2) := by decide +kernel
theorem dX12_rights_64 : decode cX12_rights 64 = .ok (.bipush 10, 2) := by decide +kernel
theorem dX12_rights_66 : decode cX12_rights 66 = .ok (.idiv, 1) := by decide +kernel
theorem dX12_rights_67 : decode cX12_rights 67 = .ok (.bipush 10, 2) := by decide +kernel
theorem dX12_rights_69 : decode cX12_rights 69 = .ok (.irem, 1) := by decide +kernel
theorem dX12_rights_70 : decode cX12_rights 70 = .ok (.iload 6, 2) := by decide +kernel
theorem dX12_rights_72 : decode cX12_rights 72 = .ok (.bipush 10, 2) := by decide +kernel
theorem dX12_rights_74 : decode cX12_rights 74 = .ok (.irem, 1) := by decide +kernel
theorem dX12_rights_75 : decode cX12_rights 75 = .ok (.invokevirtual 162, 3) := by decide +kernel
theorem dX12_rights_78 : decode cX12_rights 78 = .ok (.iinc 5 1, 3) := by decide +kernel
theorem dX12_rights_81 : decode cX12_rights 81 = .ok (.goto (-71), 3) := by decide +kernel
theorem dX12_rights_84 : decode cX12_rights 84 = .ok (.iload 4, 2) := by decide +kernel
theorem dX12_rights_86 : decode cX12_rights 86 = .ok (.ifCond .eq 34, 3) := by decide +kernel
theorem dX12_rights_89 : decode cX12_rights 89 = .ok (.iload_n 3, 1) := by decide +kernel
theorem dX12_rights_90 : decode cX12_rights 90 = .ok (.ifCond .eq 13, 3) := by decide +kernel
theorem dX12_rights_93 : decode cX12_rights 93 = .ok (.aload_n 0, 1) := by decide +kernel
theorem dX12_rights_94 : decode cX12_rights 94 = .ok (.invokevirtual 194, 3) := by decide +kernel
theorem dX12_rights_97 : decode cX12_rights 97 = .ok (.ifCond .eq 23, 3) := by decide +kernel
theorem dX12_rights_100 : decode cX12_rights 100 = .ok (.goto 16, 3) := by decide +kernel
theorem dX12_rights_103 : decode cX12_rights 103 = .ok (.aload_n 0, 1) := by decide +kernel
theorem dX12_rights_104 : decode cX12_rights 104 = .ok (.getfield 35, 3) := by decide +kernel
theorem dX12_rights_107 : decode cX12_rights 107 = .ok (.iconst 0, 1) := by decide +kernel
theorem dX12_rights_108 : decode cX12_rights 108 = .ok (.iaload, 1) := by decide +kernel
theorem dX12_rights_109 : decode cX12_rights 109 = .ok (.aload_n 0, 1) := by decide +kernel
theorem dX12_rights_110 : decode cX12_rights 110 = .ok (.getfield 115, 3) := by decide +kernel
theorem dX12_rights_113 : decode cX12_rights 113 = .ok (.if_icmp .ne 7, 3) := by decide +kernel
theorem dX12_rights_116 : decode cX12_rights 116 = .ok (.iconst 1, 1) := by decide +kernel
theorem dX12_rights_117 : decode cX12_rights 117 = .ok (.goto 4, 3) := by decide +kernel
theorem dX12_rights_120 : decode cX12_rights 120 = .ok (.iconst 0, 1) := by decide +kernel
theorem dX12_rights_121 : decode cX12_rights 121 = .ok (.ireturn, 1) := by decide +kernel
theorem dX12_findRow_0 : decode cX12_findRow 0 = .ok (.aload_n 0, 1) := by decide +kernel
theorem dX12_findRow_1 : decode cX12_findRow 1 = .ok (.bipush (-9), 2) := by decide +kernel
theorem dX12_findRow_3 : decode cX12_findRow 3 = .ok (.putfield 197, 3) := by decide +kernel
theorem dX12_findRow_6 : decode cX12_findRow 6 = .ok (.aload_n 0, 1) := by decide +kernel
theorem dX12_findRow_7 : decode cX12_findRow 7 = .ok (.bipush (-9), 2) := by decide +kernel
theorem dX12_findRow_9 : decode cX12_findRow 9 = .ok (.putfield 200, 3) := by decide +kernel
theorem dX12_findRow_12 : decode cX12_findRow 12 = .ok (.iconst 0, 1) := by decide +kernel
theorem dX12_findRow_13 : decode cX12_findRow 13 = .ok (.istore_n 2, 1) := by decide +kernel
theorem dX12_findRow_14 : decode cX12_findRow 14 = .ok (.iload_n 2, 1) := by decide +kernel
theorem dX12_findRow_15 : decode cX12_findRow 15 = .ok (.iconst 2, 1) := by decide +kernel
theorem dX12_findRow_16 : decode cX12_findRow 16 = .ok (.if_icmp .gt 112, 3) := by decide +kernel
theorem dX12_findRow_19 : decode cX12_findRow 19 = .ok (.aload_n 0, 1) := by decide +kernel
theorem dX12_findRow_20 : decode cX12_findRow 20 = .ok (.getfield 197, 3) := by decide +kernel
theorem dX12_findRow_23 : decode cX12_findRow 23 = .ok (.bipush (-9), 2) := by decide +kernel
theorem dX12_findRow_25 : decode cX12_findRow 25 = .ok (.if_icmp .ne 103, 3) := by decide +kernel
theorem dX12_findRow_28 : decode cX12_findRow 28 = .ok (.iload_n 2, 1) := by decide +kernel
theorem dX12_findRow_29 : decode cX12_findRow 29 = .ok (.ifCond .ne 7, 3) := by decide +kernel
theorem dX12_findRow_32 : decode cX12_findRow 32 = .ok (.iconst 1, 1) := by decide +kernel
theorem dX12_findRow_33 : decode cX12_findRow 33 = .ok (.goto 16, 3) := by decide +kernel
theorem dX12_findRow_36 : decode cX12_findRow 36 = .ok (.iload_n 2, 1) := by decide +kernel
theorem dX12_findRow_37 : decode cX12_findRow 37 = .ok (.iconst 1, 1) := by decide +kernel
theorem dX12_findRow_38 : decode cX12_findRow 38 = .ok (.if_icmp .ne 9, 3) := by decide +kernel
theorem dX12_findRow_41 : decode cX12_findRow 41 = .ok (.sipush 300, 3) := by decide +kernel
theorem dX12_findRow_44 : decode cX12_findRow 44 = .ok (.goto 5, 3) := by decide +kernel
theorem dX12_findRow_47 : decode cX12_findRow 47 = .ok (.ldc 203, 2) := by decide +kernel
theorem dX12_findRow_49 : decode cX12_findRow 49 = .ok (.istore_n 3, 1) := by decide +kernel
theorem dX12_findRow_50 : decode cX12_findRow 50 = .ok (.iconst 0, 1) := by decide +kernel
theorem dX12_findRow_51 : decode cX12_findRow 51 = .ok (.istore 4, 2) := by decide +kernel
theorem dX12_findRow_53 : decode cX12_findRow 53 = .ok (.iload 4, 2) := by decide +kernel
theorem dX12_findRow_55 : decode cX12_findRow 55 = .ok (.iload_n 3, 1) := by decide +kernel
theorem dX12_findRow_56 : decode cX12_findRow 56 = .ok (.if_icmp .ge 66, 3) := by decide +kernel
theorem dX12_findRow_59 : decode cX12_findRow 59 = .ok (.aload_n 0, 1) := by decide +kernel
theorem dX12_findRow_60 : decode cX12_findRow 60 = .ok (.getfield 197, 3) := by decide +kernel
theorem dX12_findRow_63 : decode cX12_findRow 63 = .ok (.bipush (-9), 2) := by decide +kernel
theorem dX12_findRow_65 : decode cX12_findRow 65 = .ok (.if_icmp .ne 57, 3) := by decide +kernel
theorem dX12_findRow_68 : decode cX12_findRow 68 = .ok (.iload_n 2, 1) := by decide +kernel
theorem dX12_findRow_69 : decode cX12_findRow 69 = .ok (.iconst 2, 1) := by decide +kernel
theorem dX12_findRow_70 : decode cX12_findRow 70 = .ok (.if_icmp .lt 24, 3) := by decide +kernel
theorem dX12_findRow_73 : decode cX12_findRow 73 = .ok (.iload 4, 2) := by decide +kernel
theorem dX12_findRow_75 : decode cX12_findRow 75 = .ok (.bipush 10, 2) := by decide +kernel
theorem dX12_findRow_77 : decode cX12_findRow 77 = .ok (.irem, 1) := by decide +kernel
theorem dX12_findRow_78 : decode cX12_findRow 78 = .ok (.iconst 4, 1) := by decide +kernel
theorem dX12_findRow_79 : decode cX12_findRow 79 = .ok (.if_icmp .ge 37, 3) := by decide +kernel
theorem dX12_findRow_82 : decode cX12_findRow 82 = .ok (.iload 4, 2) := by decide +kernel
theorem dX12_findRow_84 : decode cX12_findRow 84 = .ok (.sipush 1000, 3) := by decide +kernel
theorem dX12_findRow_87 : decode cX12_findRow 87 = .ok (.irem, 1) := by decide +kernel
theorem dX12_findRow_88 : decode cX12_findRow 88 = .ok (.sipush 300, 3) := by decide +kernel
theorem dX12_findRow_91 : decode cX12_findRow 91 = .ok (.if_icmp .ge 25, 3) := by decide +kernel
theorem dX12_findRow_94 : decode cX12_findRow 94 = .ok (.aload_n 0, 1) := by decide +kernel
theorem dX12_findRow_95 : decode cX12_findRow 95 = .ok (.iload_n 2, 1) := by decide +kernel
theorem dX12_findRow_96 : decode cX12_findRow 96 = .ok (.iload 4, 2) := by decide +kernel
theorem dX12_findRow_98 : decode cX12_findRow 98 = .ok (.iload_n 1, 1) := by decide +kernel
theorem dX12_findRow_99 : decode cX12_findRow 99 = .ok (.invokevirtual 204, 3) := by decide +kernel
theorem dX12_findRow_102 : decode cX12_findRow 102 = .ok (.ifCond .eq 14, 3) := by decide +kernel
theorem dX12_findRow_105 : decode cX12_findRow 105 = .ok (.aload_n 0, 1) := by decide +kernel
theorem dX12_findRow_106 : decode cX12_findRow 106 = .ok (.iload_n 2, 1) := by decide +kernel
theorem dX12_findRow_107 : decode cX12_findRow 107 = .ok (.putfield 197, 3) := by decide +kernel
theorem dX12_findRow_110 : decode cX12_findRow 110 = .ok (.aload_n 0, 1) := by decide +kernel
theorem dX12_findRow_111 : decode cX12_findRow 111 = .ok (.iload 4, 2) := by decide +kernel
theorem dX12_findRow_113 : decode cX12_findRow 113 = .ok (.putfield 200, 3) := by decide +kernel
theorem dX12_findRow_116 : decode cX12_findRow 116 = .ok (.iinc 4 1, 3) := by decide +kernel
theorem dX12_findRow_119 : decode cX12_findRow 119 = .ok (.goto (-66), 3) := by decide +kernel
theorem dX12_findRow_122 : decode cX12_findRow 122 = .ok (.iinc 2 1, 3) := by decide +kernel
theorem dX12_findRow_125 : decode cX12_findRow 125 = .ok (.goto (-111), 3) := by decide +kernel
theorem dX12_findRow_128 : decode cX12_findRow 128 = .ok (.return_, 1) := by decide +kernel
theorem dX12_righted_0 : decode cX12_righted 0 = .ok (.aload_n 0, 1) := by decide +kernel
theorem dX12_righted_1 : decode cX12_righted 1 = .ok (.iconst 0, 1) := by decide +kernel
theorem dX12_righted_2 : decode cX12_righted 2 = .ok (.putfield 57, 3) := by decide +kernel
theorem dX12_righted_5 : decode cX12_righted 5 = .ok (.iload_n 1, 1) := by decide +kernel
theorem dX12_righted_6 : decode cX12_righted 6 = .ok (.i2l, 1) := by decide +kernel
theorem dX12_righted_7 : decode cX12_righted 7 = .ok (.lconst 0, 1) := by decide +kernel
theorem dX12_righted_8 : decode cX12_righted 8 = .ok (.lconst 1, 1) := by decide +kernel
theorem dX12_righted_9 : decode cX12_righted 9 = .ok (.invokestatic 65, 3) := by decide +kernel
theorem dX12_righted_12 : decode cX12_righted 12 = .ok (.ifCond .ne 6, 3) := by decide +kernel
theorem dX12_righted_15 : decode cX12_righted 15 = .ok (.bipush (-2), 2) := by decide +kernel
theorem dX12_righted_17 : decode cX12_righted 17 = .ok (.ireturn, 1) := by decide +kernel
theorem dX12_righted_18 : decode cX12_righted 18 = .ok (.aload_n 0, 1) := by decide +kernel
theorem dX12_righted_19 : decode cX12_righted 19 = .ok (.iconst 0, 1) := by decide +kernel
theorem dX12_righted_20 : decode cX12_righted 20 = .ok (.invokevirtual 208, 3) := by decide +kernel
theorem dX12_righted_23 : decode cX12_righted 23 = .ok (.iload_n 1, 1) := by decide +kernel
theorem dX12_righted_24 : decode cX12_righted 24 = .ok (.ifCond .ne 10, 3) := by decide +kernel
theorem dX12_righted_27 : decode cX12_righted 27 = .ok (.aload_n 0, 1) := by decide +kernel
theorem dX12_righted_28 : decode cX12_righted 28 = .ok (.getfield 197, 3) := by decide +kernel
theorem dX12_righted_31 : decode cX12_righted 31 = .ok (.goto 7, 3) := by decide +kernel
theorem dX12_righted_34 : decode cX12_righted 34 = .ok (.aload_n 0, 1) := by decide +kernel
theorem dX12_righted_35 : decode cX12_righted 35 = .ok (.getfield 200, 3) := by decide +kernel
theorem dX12_righted_38 : decode cX12_righted 38 = .ok (.ireturn, 1) := by decide +kernel
theorem dX12_allRighted_0 : decode cX12_allRighted 0 = .ok (.aload_n 0, 1) := by decide +kernel
theorem dX12_allRighted_1 : decode cX12_allRighted 1 = .ok (.iconst 0, 1) := by decide +kernel
theorem dX12_allRighted_2 : decode cX12_allRighted 2 = .ok (.putfield 57, 3) := by decide +kernel
theorem dX12_allRighted_5 : decode cX12_allRighted 5 = .ok (.iload_n 1, 1) := by decide +kernel
theorem dX12_allRighted_6 : decode cX12_allRighted 6 = .ok (.i2l, 1) := by decide +kernel
theorem dX12_allRighted_7 : decode cX12_allRighted 7 = .ok (.lconst 0, 1) := by decide +kernel
theorem dX12_allRighted_8 : decode cX12_allRighted 8 = .ok (.lconst 1, 1) := by decide +kernel
theorem dX12_allRighted_9 : decode cX12_allRighted 9 = .ok (.invokestatic 65, 3) := by decide +kernel
theorem dX12_allRighted_12 : decode cX12_allRighted 12 = .ok (.ifCond .ne 6, 3) := by decide +kernel
theorem dX12_allRighted_15 : decode cX12_allRighted 15 = .ok (.bipush (-2), 2) := by decide +kernel
theorem dX12_allRighted_17 : decode cX12_allRighted 17 = .ok (.ireturn, 1) := by decide +kernel
theorem dX12_allRighted_18 : decode cX12_allRighted 18 = .ok (.aload_n 0, 1) := by decide +kernel
theorem dX12_allRighted_19 : decode cX12_allRighted 19 = .ok (.iconst 1, 1) := by decide +kernel
theorem dX12_allRighted_20 : decode cX12_allRighted 20 = .ok (.invokevirtual 208, 3) := by decide +kernel
theorem dX12_allRighted_23 : decode cX12_allRighted 23 = .ok (.iload_n 1, 1) := by decide +kernel
theorem dX12_allRighted_24 : decode cX12_allRighted 24 = .ok (.ifCond .ne 10, 3) := by decide +kernel
theorem dX12_allRighted_27 : decode cX12_allRighted 27 = .ok (.aload_n 0, 1) := by decide +kernel
theorem dX12_allRighted_28 : decode cX12_allRighted 28 = .ok (.getfield 197, 3) := by decide +kernel
theorem dX12_allRighted_31 : decode cX12_allRighted 31 = .ok (.goto 7, 3) := by decide +kernel
theorem dX12_allRighted_34 : decode cX12_allRighted 34 = .ok (.aload_n 0, 1) := by decide +kernel
theorem dX12_allRighted_35 : decode cX12_allRighted 35 = .ok (.getfield 200, 3) := by decide +kernel
theorem dX12_allRighted_38 : decode cX12_allRighted 38 = .ok (.ireturn, 1) := by decide +kernel
theorem dX12_ring_0 : decode cX12_ring 0 = .ok (.aload_n 0, 1) := by decide +kernel
theorem dX12_ring_1 : decode cX12_ring 1 = .ok (.iconst 0, 1) := by decide +kernel
theorem dX12_ring_2 : decode cX12_ring 2 = .ok (.putfield 57, 3) := by decide +kernel
theorem dX12_ring_5 : decode cX12_ring 5 = .ok (.aload_n 0, 1) := by decide +kernel
theorem dX12_ring_6 : decode cX12_ring 6 = .ok (.iload_n 1, 1) := by decide +kernel
theorem dX12_ring_7 : decode cX12_ring 7 = .ok (.iconst 3, 1) := by decide +kernel
theorem dX12_ring_8 : decode cX12_ring 8 = .ok (.lload_n 2, 1) := by decide +kernel
theorem dX12_ring_9 : decode cX12_ring 9 = .ok (.invokevirtual 183, 3) := by decide +kernel
theorem dX12_ring_12 : decode cX12_ring 12 = .ok (.ifCond .ne 14, 3) := by decide +kernel
theorem dX12_ring_15 : decode cX12_ring 15 = .ok (.iload 4, 2) := by decide +kernel
theorem dX12_ring_17 : decode cX12_ring 17 = .ok (.i2l, 1) := by decide +kernel
theorem dX12_ring_18 : decode cX12_ring 18 = .ok (.lconst 0, 1) := by decide +kernel
theorem dX12_ring_19 : decode cX12_ring 19 = .ok (.lconst 1, 1) := by decide +kernel
theorem dX12_ring_20 : decode cX12_ring 20 = .ok (.invokestatic 65, 3) := by decide +kernel
theorem dX12_ring_23 : decode cX12_ring 23 = .ok (.ifCond .ne 6, 3) := by decide +kernel
theorem dX12_ring_26 : decode cX12_ring 26 = .ok (.bipush (-2), 2) := by decide +kernel
theorem dX12_ring_28 : decode cX12_ring 28 = .ok (.ireturn, 1) := by decide +kernel
theorem dX12_ring_29 : decode cX12_ring 29 = .ok (.aload_n 0, 1) := by decide +kernel
theorem dX12_ring_30 : decode cX12_ring 30 = .ok (.getfield 54, 3) := by decide +kernel
theorem dX12_ring_33 : decode cX12_ring 33 = .ok (.iconst 0, 1) := by decide +kernel
theorem dX12_ring_34 : decode cX12_ring 34 = .ok (.aload_n 0, 1) := by decide +kernel
theorem dX12_ring_35 : decode cX12_ring 35 = .ok (.getfield 32, 3) := by decide +kernel
theorem dX12_ring_38 : decode cX12_ring 38 = .ok (.iconst 0, 1) := by decide +kernel
theorem dX12_ring_39 : decode cX12_ring 39 = .ok (.iaload, 1) := by decide +kernel
theorem dX12_ring_40 : decode cX12_ring 40 = .ok (.iastore, 1) := by decide +kernel
theorem dX12_ring_41 : decode cX12_ring 41 = .ok (.iconst 1, 1) := by decide +kernel
theorem dX12_ring_42 : decode cX12_ring 42 = .ok (.istore 5, 2) := by decide +kernel
theorem dX12_ring_44 : decode cX12_ring 44 = .ok (.aload_n 0, 1) := by decide +kernel
theorem dX12_ring_45 : decode cX12_ring 45 = .ok (.aload_n 0, 1) := by decide +kernel
theorem dX12_ring_46 : decode cX12_ring 46 = .ok (.getfield 54, 3) := by decide +kernel
theorem dX12_ring_49 : decode cX12_ring 49 = .ok (.iload 5, 2) := by decide +kernel
theorem dX12_ring_51 : decode cX12_ring 51 = .ok (.iconst 1, 1) := by decide +kernel
theorem dX12_ring_52 : decode cX12_ring 52 = .ok (.isub, 1) := by decide +kernel
theorem dX12_ring_53 : decode cX12_ring 53 = .ok (.iaload, 1) := by decide +kernel
theorem dX12_ring_54 : decode cX12_ring 54 = .ok (.iload_n 1, 1) := by decide +kernel
theorem dX12_ring_55 : decode cX12_ring 55 = .ok (.lload_n 2, 1) := by decide +kernel
theorem dX12_ring_56 : decode cX12_ring 56 = .ok (.invokevirtual 187, 3) := by decide +kernel
theorem dX12_ring_59 : decode cX12_ring 59 = .ok (.istore 6, 2) := by decide +kernel
theorem dX12_ring_61 : decode cX12_ring 61 = .ok (.iconst 0, 1) := by decide +kernel
theorem dX12_ring_62 : decode cX12_ring 62 = .ok (.istore 7, 2) := by decide +kernel
theorem dX12_ring_64 : decode cX12_ring 64 = .ok (.iload 7, 2) := by decide +kernel
theorem dX12_ring_66 : decode cX12_ring 66 = .ok (.iload 5, 2) := by decide +kernel
theorem dX12_ring_68 : decode cX12_ring 68 = .ok (.if_icmp .ge 37, 3) := by decide +kernel
theorem dX12_ring_71 : decode cX12_ring 71 = .ok (.aload_n 0, 1) := by decide +kernel
theorem dX12_ring_72 : decode cX12_ring 72 = .ok (.getfield 54, 3) := by decide +kernel
theorem dX12_ring_75 : decode cX12_ring 75 = .ok (.iload 7, 2) := by decide +kernel
theorem dX12_ring_77 : decode cX12_ring 77 = .ok (.iaload, 1) := by decide +kernel
theorem dX12_ring_78 : decode cX12_ring 78 = .ok (.iload 6, 2) := by decide +kernel
theorem dX12_ring_80 : decode cX12_ring 80 = .ok (.if_icmp .ne 19, 3) := by decide +kernel
theorem dX12_ring_83 : decode cX12_ring 83 = .ok (.iload 4, 2) := by decide +kernel
theorem dX12_ring_85 : decode cX12_ring 85 = .ok (.ifCond .ne 8, 3) := by decide +kernel
theorem dX12_ring_88 : decode cX12_ring 88 = .ok (.iload 7, 2) := by decide +kernel
theorem dX12_ring_90 : decode cX12_ring 90 = .ok (.goto 8, 3) := by decide +kernel
theorem dX12_ring_93 : decode cX12_ring 93 = .ok (.iload 5, 2) := by decide +kernel
theorem dX12_ring_95 : decode cX12_ring 95 = .ok (.iload 7, 2) := by decide +kernel
theorem dX12_ring_97 : decode cX12_ring 97 = .ok (.isub, 1) := by decide +kernel
theorem dX12_ring_98 : decode cX12_ring 98 = .ok (.ireturn, 1) := by decide +kernel
theorem dX12_ring_99 : decode cX12_ring 99 = .ok (.iinc 7 1, 3) := by decide +kernel
theorem dX12_ring_102 : decode cX12_ring 102 = .ok (.goto (-38), 3) := by decide +kernel
theorem dX12_ring_105 : decode cX12_ring 105 = .ok (.aload_n 0, 1) := by decide +kernel
theorem dX12_ring_106 : decode cX12_ring 106 = .ok (.getfield 54, 3) := by decide +kernel
theorem dX12_ring_109 : decode cX12_ring 109 = .ok (.iload 5, 2) := by decide +kernel
theorem dX12_ring_111 : decode cX12_ring 111 = .ok (.iload 6, 2) := by decide +kernel
theorem dX12_ring_113 : decode cX12_ring 113 = .ok (.iastore, 1) := by decide +kernel
theorem dX12_ring_114 : decode cX12_ring 114 = .ok (.iinc 5 1, 3) := by decide +kernel
theorem dX12_ring_117 : decode cX12_ring 117 = .ok (.goto (-73), 3) := by decide +kernel
theorem dX12_findFirst_0 : decode cX12_findFirst 0 = .ok (.aload_n 0, 1) := by decide +kernel
theorem dX12_findFirst_1 : decode cX12_findFirst 1 = .ok (.iconst 0, 1) := by decide +kernel
theorem dX12_findFirst_2 : decode cX12_findFirst 2 = .ok (.putfield 212, 3) := by decide +kernel
theorem dX12_findFirst_5 : decode cX12_findFirst 5 = .ok (.aload_n 0, 1) := by decide +kernel
theorem dX12_findFirst_6 : decode cX12_findFirst 6 = .ok (.bipush (-9), 2) := by decide +kernel
theorem dX12_findFirst_8 : decode cX12_findFirst 8 = .ok (.putfield 215, 3) := by decide +kernel
theorem dX12_findFirst_11 : decode cX12_findFirst 11 = .ok (.aload_n 0, 1) := by decide +kernel
theorem dX12_findFirst_12 : decode cX12_findFirst 12 = .ok (.iconst 1, 1) := by decide +kernel
theorem dX12_findFirst_13 : decode cX12_findFirst 13 = .ok (.aload_n 0, 1) := by decide +kernel
theorem dX12_findFirst_14 : decode cX12_findFirst 14 = .ok (.getfield 13, 3) := by decide +kernel
theorem dX12_findFirst_17 : decode cX12_findFirst 17 = .ok (.ishl, 1) := by decide +kernel
theorem dX12_findFirst_18 : decode cX12_findFirst 18 = .ok (.iconst 1, 1) := by decide +kernel
theorem dX12_findFirst_19 : decode cX12_findFirst 19 = .ok (.isub, 1) := by decide +kernel
theorem dX12_findFirst_20 : decode cX12_findFirst 20 = .ok (.putfield 218, 3) := by decide +kernel
theorem dX12_findFirst_23 : decode cX12_findFirst 23 = .ok (.iconst 0, 1) := by decide +kernel
theorem dX12_findFirst_24 : decode cX12_findFirst 24 = .ok (.istore 4, 2) := by decide +kernel
theorem dX12_findFirst_26 : decode cX12_findFirst 26 = .ok (.iload 4, 2) := by decide +kernel
theorem dX12_findFirst_28 : decode cX12_findFirst 28 = .ok (.aload_n 0, 1) := by decide +kernel
theorem dX12_findFirst_29 : decode cX12_findFirst 29 = .ok (.invokevirtual 221, 3) := by decide +kernel
theorem dX12_findFirst_32 : decode cX12_findFirst 32 = .ok (.if_icmp .ge 114, 3) := by decide +kernel
theorem dX12_findFirst_35 : decode cX12_findFirst 35 = .ok (.aload_n 0, 1) := by decide +kernel
theorem dX12_findFirst_36 : decode cX12_findFirst 36 = .ok (.iload 4, 2) := by decide +kernel
theorem dX12_findFirst_38 : decode cX12_findFirst 38 = .ok (.iload_n 1, 1) := by decide +kernel
theorem dX12_findFirst_39 : decode cX12_findFirst 39 = .ok (.lload_n 2, 1) := by decide +kernel
theorem dX12_findFirst_40 : decode cX12_findFirst 40 = .ok (.invokevirtual 187, 3) := by decide +kernel
theorem dX12_findFirst_43 : decode cX12_findFirst 43 = .ok (.aload_n 0, 1) := by decide +kernel
theorem dX12_findFirst_44 : decode cX12_findFirst 44 = .ok (.getfield 32, 3) := by decide +kernel
theorem dX12_findFirst_47 : decode cX12_findFirst 47 = .ok (.iconst 0, 1) := by decide +kernel
theorem dX12_findFirst_48 : decode cX12_findFirst 48 = .ok (.iaload, 1) := by decide +kernel
theorem dX12_findFirst_49 : decode cX12_findFirst 49 = .ok (.if_icmp .ne 91, 3) := by decide +kernel
theorem dX12_findFirst_52 : decode cX12_findFirst 52 = .ok (.aload_n 0, 1) := by decide +kernel
theorem dX12_findFirst_53 : decode cX12_findFirst 53 = .ok (.aload_n 0, 1) := by decide +kernel
theorem dX12_findFirst_54 : decode cX12_findFirst 54 = .ok (.getfield 212, 3) := by decide +kernel
theorem dX12_findFirst_57 : decode cX12_findFirst 57 = .ok (.ifCond .ne 8, 3) := by decide +kernel
theorem dX12_findFirst_60 : decode cX12_findFirst 60 = .ok (.iload 4, 2) := by decide +kernel
theorem dX12_findFirst_62 : decode cX12_findFirst 62 = .ok (.goto 7, 3) := by decide +kernel
theorem dX12_findFirst_65 : decode cX12_findFirst 65 = .ok (.aload_n 0, 1) := by decide +kernel
theorem dX12_findFirst_66 : decode cX12_findFirst 66 = .ok (.getfield 215, 3) := by decide +kernel
theorem dX12_findFirst_69 : decode cX12_findFirst 69 = .ok (.putfield 215, 3) := by decide +kernel
theorem dX12_findFirst_72 : decode cX12_findFirst 72 = .ok (.aload_n 0, 1) := by decide +kernel
theorem dX12_findFirst_73 : decode cX12_findFirst 73 = .ok (.dup, 1) := by decide +kernel
theorem dX12_findFirst_74 : decode cX12_findFirst 74 = .ok (.getfield 212, 3) := by decide +kernel
theorem dX12_findFirst_77 : decode cX12_findFirst 77 = .ok (.iconst 1, 1) := by decide +kernel
theorem dX12_findFirst_78 : decode cX12_findFirst 78 = .ok (.iadd, 1) := by decide +kernel
theorem dX12_findFirst_79 : decode cX12_findFirst 79 = .ok (.putfield 212, 3) := by decide +kernel
theorem dX12_findFirst_82 : decode cX12_findFirst 82 = .ok (.iconst 0, 1) := by decide +kernel
theorem dX12_findFirst_83 : decode cX12_findFirst 83 = .ok (.istore 5, 2) := by decide +kernel
theorem dX12_findFirst_85 : decode cX12_findFirst 85 = .ok (.iload 5, 2) := by decide +kernel
theorem dX12_findFirst_87 : decode cX12_findFirst 87 = .ok (.aload_n 0, 1) := by decide +kernel
theorem dX12_findFirst_88 : decode cX12_findFirst 88 = .ok (.getfield 13, 3) := by decide +kernel
theorem dX12_findFirst_91 : decode cX12_findFirst 91 = .ok (.if_icmp .ge 49, 3) := by decide +kernel
theorem dX12_findFirst_94 : decode cX12_findFirst 94 = .ok (.aload_n 0, 1) := by decide +kernel
theorem dX12_findFirst_95 : decode cX12_findFirst 95 = .ok (.dup, 1) := by decide +kernel
theorem dX12_findFirst_96 : decode cX12_findFirst 96 = .ok (.getfield 218, 3) := by decide +kernel
theorem dX12_findFirst_99 : decode cX12_findFirst 99 = .ok (.aload_n 0, 1) := by decide +kernel
theorem dX12_findFirst_100 : decode cX12_findFirst 100 = .ok (.iload 4, 2) := by decide +kernel
theorem dX12_findFirst_102 : decode cX12_findFirst 102 = .ok (.iload 5, 2) := by decide +kernel
theorem dX12_findFirst_104 : decode cX12_findFirst 104 = .ok (.invokevirtual 124, 3) := by decide +kernel
theorem dX12_findFirst_107 : decode cX12_findFirst 107 = .ok (.aload_n 0, 1) := by decide +kernel
theorem dX12_findFirst_108 : decode cX12_findFirst 108 = .ok (.aload_n 0, 1) := by decide +kernel
theorem dX12_findFirst_109 : decode cX12_findFirst 109 = .ok (.getfield 215, 3) := by decide +kernel
theorem dX12_findFirst_112 : decode cX12_findFirst 112 = .ok (.iload 5, 2) := by decide +kernel
theorem dX12_findFirst_114 : decode cX12_findFirst 114 = .ok (.invokevirtual 124, 3) := by decide +kernel
theorem dX12_findFirst_117 : decode cX12_findFirst 117 = .ok (.if_icmp .ne 7, 3) := by decide +kernel
theorem dX12_findFirst_120 : decode cX12_findFirst 120 = .ok (.iconst (-1), 1) := by decide +kernel
theorem dX12_findFirst_121 : decode cX12_findFirst 121 = .ok (.goto 9, 3) := by decide +kernel
theorem dX12_findFirst_124 : decode cX12_findFirst 124 = .ok (.iconst 1, 1) := by decide +kernel
theorem dX12_findFirst_125 : decode cX12_findFirst 125 = .ok (.iload 5, 2) := by decide +kernel
theorem dX12_findFirst_127 : decode cX12_findFirst 127 = .ok (.ishl, 1) := by decide +kernel
theorem dX12_findFirst_128 : decode cX12_findFirst 128 = .ok (.iconst (-1), 1) := by decide +kernel
theorem dX12_findFirst_129 : decode cX12_findFirst 129 = .ok (.ixor, 1) := by decide +kernel
theorem dX12_findFirst_130 : decode cX12_findFirst 130 = .ok (.iand, 1) := by decide +kernel
theorem dX12_findFirst_131 : decode cX12_findFirst 131 = .ok (.putfield 218, 3) := by decide +kernel
theorem dX12_findFirst_134 : decode cX12_findFirst 134 = .ok (.iinc 5 1, 3) := by decide +kernel
theorem dX12_findFirst_137 : decode cX12_findFirst 137 = .ok (.goto (-52), 3) := by decide +kernel
theorem dX12_findFirst_140 : decode cX12_findFirst 140 = .ok (.iinc 4 1, 3) := by decide +kernel
theorem dX12_findFirst_143 : decode cX12_findFirst 143 = .ok (.goto (-117), 3) := by decide +kernel
theorem dX12_findFirst_146 : decode cX12_findFirst 146 = .ok (.return_, 1) := by decide +kernel
theorem dX12_first_0 : decode cX12_first 0 = .ok (.aload_n 0, 1) := by decide +kernel
theorem dX12_first_1 : decode cX12_first 1 = .ok (.iconst 0, 1) := by decide +kernel
theorem dX12_first_2 : decode cX12_first 2 = .ok (.putfield 57, 3) := by decide +kernel
theorem dX12_first_5 : decode cX12_first 5 = .ok (.aload_n 0, 1) := by decide +kernel
theorem dX12_first_6 : decode cX12_first 6 = .ok (.iload_n 1, 1) := by decide +kernel
theorem dX12_first_7 : decode cX12_first 7 = .ok (.iconst 3, 1) := by decide +kernel
theorem dX12_first_8 : decode cX12_first 8 = .ok (.lload_n 2, 1) := by decide +kernel
theorem dX12_first_9 : decode cX12_first 9 = .ok (.invokevirtual 183, 3) := by decide +kernel
theorem dX12_first_12 : decode cX12_first 12 = .ok (.ifCond .ne 16, 3) := by decide +kernel
theorem dX12_first_15 : decode cX12_first 15 = .ok (.iload 4, 2) := by decide +kernel
theorem dX12_first_17 : decode cX12_first 17 = .ok (.i2l, 1) := by decide +kernel
theorem dX12_first_18 : decode cX12_first 18 = .ok (.lconst 0, 1) := by decide +kernel
theorem dX12_first_19 : decode cX12_first 19 = .ok (.ldc2_w 224, 3) := by decide +kernel
theorem dX12_first_22 : decode cX12_first 22 = .ok (.invokestatic 65, 3) := by decide +kernel
theorem dX12_first_25 : decode cX12_first 25 = .ok (.ifCond .ne 6, 3) := by decide +kernel
theorem dX12_first_28 : decode cX12_first 28 = .ok (.bipush (-2), 2) := by decide +kernel
theorem dX12_first_30 : decode cX12_first 30 = .ok (.ireturn, 1) := by decide +kernel
theorem dX12_first_31 : decode cX12_first 31 = .ok (.aload_n 0, 1) := by decide +kernel
theorem dX12_first_32 : decode cX12_first 32 = .ok (.iload_n 1, 1) := by decide +kernel
theorem dX12_first_33 : decode cX12_first 33 = .ok (.lload_n 2, 1) := by decide +kernel
theorem dX12_first_34 : decode cX12_first 34 = .ok (.invokevirtual 226, 3) := by decide +kernel
theorem dX12_first_37 : decode cX12_first 37 = .ok (.iload 4, 2) := by decide +kernel
theorem dX12_first_39 : decode cX12_first 39 = .ok (.ifCond .ne 8, 3) := by decide +kernel
theorem dX12_first_42 : decode cX12_first 42 = .ok (.aload_n 0, 1) := by decide +kernel
theorem dX12_first_43 : decode cX12_first 43 = .ok (.getfield 212, 3) := by decide +kernel
theorem dX12_first_46 : decode cX12_first 46 = .ok (.ireturn, 1) := by decide +kernel
theorem dX12_first_47 : decode cX12_first 47 = .ok (.aload_n 0, 1) := by decide +kernel
theorem dX12_first_48 : decode cX12_first 48 = .ok (.getfield 212, 3) := by decide +kernel
theorem dX12_first_51 : decode cX12_first 51 = .ok (.ifCond .ne 8, 3) := by decide +kernel
theorem dX12_first_54 : decode cX12_first 54 = .ok (.bipush (-9), 2) := by decide +kernel
theorem dX12_first_56 : decode cX12_first 56 = .ok (.goto 24, 3) := by decide +kernel
theorem dX12_first_59 : decode cX12_first 59 = .ok (.iload 4, 2) := by decide +kernel
theorem dX12_first_61 : decode cX12_first 61 = .ok (.iconst 1, 1) := by decide +kernel
theorem dX12_first_62 : decode cX12_first 62 = .ok (.if_icmp .ne 14, 3) := by decide +kernel
theorem dX12_first_65 : decode cX12_first 65 = .ok (.aload_n 0, 1) := by decide +kernel
theorem dX12_first_66 : decode cX12_first 66 = .ok (.aload_n 0, 1) := by decide +kernel
theorem dX12_first_67 : decode cX12_first 67 = .ok (.getfield 215, 3) := by decide +kernel
theorem dX12_first_70 : decode cX12_first 70 = .ok (.invokevirtual 135, 3) := by decide +kernel
theorem dX12_first_73 : decode cX12_first 73 = .ok (.goto 7, 3) := by decide +kernel
theorem dX12_first_76 : decode cX12_first 76 = .ok (.aload_n 0, 1) := by decide +kernel
theorem dX12_first_77 : decode cX12_first 77 = .ok (.getfield 218, 3) := by decide +kernel
theorem dX12_first_80 : decode cX12_first 80 = .ok (.ireturn, 1) := by decide +kernel
theorem dX12_who_0 : decode cX12_who 0 = .ok (.aload_n 0, 1) := by decide +kernel
theorem dX12_who_1 : decode cX12_who 1 = .ok (.iconst 0, 1) := by decide +kernel
theorem dX12_who_2 : decode cX12_who 2 = .ok (.putfield 57, 3) := by decide +kernel
theorem dX12_who_5 : decode cX12_who 5 = .ok (.aload_n 0, 1) := by decide +kernel
theorem dX12_who_6 : decode cX12_who 6 = .ok (.iload_n 1, 1) := by decide +kernel
theorem dX12_who_7 : decode cX12_who 7 = .ok (.invokevirtual 180, 3) := by decide +kernel
theorem dX12_who_10 : decode cX12_who 10 = .ok (.istore 5, 2) := by decide +kernel
theorem dX12_who_12 : decode cX12_who 12 = .ok (.aload_n 0, 1) := by decide +kernel
theorem dX12_who_13 : decode cX12_who 13 = .ok (.iload_n 2, 1) := by decide +kernel
theorem dX12_who_14 : decode cX12_who 14 = .ok (.invokevirtual 180, 3) := by decide +kernel
theorem dX12_who_17 : decode cX12_who 17 = .ok (.istore 6, 2) := by decide +kernel
theorem dX12_who_19 : decode cX12_who 19 = .ok (.iload 5, 2) := by decide +kernel
theorem dX12_who_21 : decode cX12_who 21 = .ok (.bipush (-9), 2) := by decide +kernel
theorem dX12_who_23 : decode cX12_who 23 = .ok (.if_icmp .eq 26, 3) := by decide +kernel
theorem dX12_who_26 : decode cX12_who 26 = .ok (.iload 6, 2) := by decide +kernel
theorem dX12_who_28 : decode cX12_who 28 = .ok (.bipush (-9), 2) := by decide +kernel
theorem dX12_who_30 : decode cX12_who 30 = .ok (.if_icmp .eq 19, 3) := by decide +kernel
theorem dX12_who_33 : decode cX12_who 33 = .ok (.aload_n 0, 1) := by decide +kernel
theorem dX12_who_34 : decode cX12_who 34 = .ok (.iload_n 3, 1) := by decide +kernel
theorem dX12_who_35 : decode cX12_who 35 = .ok (.invokevirtual 153, 3) := by decide +kernel
theorem dX12_who_38 : decode cX12_who 38 = .ok (.ifCond .ne 11, 3) := by decide +kernel
theorem dX12_who_41 : decode cX12_who 41 = .ok (.iload 4, 2) := by decide +kernel
theorem dX12_who_43 : decode cX12_who 43 = .ok (.invokestatic 156, 3) := by decide +kernel
theorem dX12_who_46 : decode cX12_who 46 = .ok (.ifCond .eq 6, 3) := by decide +kernel
theorem dX12_who_49 : decode cX12_who 49 = .ok (.bipush (-2), 2) := by decide +kernel
theorem dX12_who_51 : decode cX12_who 51 = .ok (.ireturn, 1) := by decide +kernel
theorem dX12_who_52 : decode cX12_who 52 = .ok (.iconst 0, 1) := by decide +kernel
theorem dX12_who_53 : decode cX12_who 53 = .ok (.istore 7, 2) := by decide +kernel
theorem dX12_who_55 : decode cX12_who 55 = .ok (.iconst 0, 1) := by decide +kernel
theorem dX12_who_56 : decode cX12_who 56 = .ok (.istore 8, 2) := by decide +kernel
theorem dX12_who_58 : decode cX12_who 58 = .ok (.iload 8, 2) := by decide +kernel
theorem dX12_who_60 : decode cX12_who 60 = .ok (.aload_n 0, 1) := by decide +kernel
theorem dX12_who_61 : decode cX12_who 61 = .ok (.getfield 62, 3) := by decide +kernel
theorem dX12_who_64 : decode cX12_who 64 = .ok (.if_icmp .ge 45, 3) := by decide +kernel
theorem dX12_who_67 : decode cX12_who 67 = .ok (.iload 7, 2) := by decide +kernel
theorem dX12_who_69 : decode cX12_who 69 = .ok (.aload_n 0, 1) := by decide +kernel
theorem dX12_who_70 : decode cX12_who 70 = .ok (.iload 5, 2) := by decide +kernel
theorem dX12_who_72 : decode cX12_who 72 = .ok (.aload_n 0, 1) := by decide +kernel
theorem dX12_who_73 : decode cX12_who 73 = .ok (.getfield 32, 3) := by decide +kernel
theorem dX12_who_76 : decode cX12_who 76 = .ok (.iconst 2, 1) := by decide +kernel
theorem dX12_who_77 : decode cX12_who 77 = .ok (.iload 8, 2) := by decide +kernel
theorem dX12_who_79 : decode cX12_who 79 = .ok (.iadd, 1) := by decide +kernel
theorem dX12_who_80 : decode cX12_who 80 = .ok (.iaload, 1) := by decide +kernel
theorem dX12_who_81 : decode cX12_who 81 = .ok (.iload_n 3, 1) := by decide +kernel
theorem dX12_who_82 : decode cX12_who 82 = .ok (.iload 4, 2) := by decide +kernel
theorem dX12_who_84 : decode cX12_who 84 = .ok (.invokevirtual 149, 3) := by decide +kernel
theorem dX12_who_87 : decode cX12_who 87 = .ok (.iload 6, 2) := by decide +kernel
theorem dX12_who_89 : decode cX12_who 89 = .ok (.if_icmp .ne 10, 3) := by decide +kernel
theorem dX12_who_92 : decode cX12_who 92 = .ok (.iconst 1, 1) := by decide +kernel
theorem dX12_who_93 : decode cX12_who 93 = .ok (.iload 8, 2) := by decide +kernel
theorem dX12_who_95 : decode cX12_who 95 = .ok (.ishl, 1) := by decide +kernel
theorem dX12_who_96 : decode cX12_who 96 = .ok (.goto 4, 3) := by decide +kernel
theorem dX12_who_99 : decode cX12_who 99 = .ok (.iconst 0, 1) := by decide +kernel
theorem dX12_who_100 : decode cX12_who 100 = .ok (.ior, 1) := by decide +kernel
theorem dX12_who_101 : decode cX12_who 101 = .ok (.istore 7, 2) := by decide +kernel
theorem dX12_who_103 : decode cX12_who 103 = .ok (.iinc 8 1, 3) := by decide +kernel
theorem dX12_who_106 : decode cX12_who 106 = .ok (.goto (-48), 3) := by decide +kernel
theorem dX12_who_109 : decode cX12_who 109 = .ok (.iload 7, 2) := by decide +kernel
theorem dX12_who_111 : decode cX12_who 111 = .ok (.ireturn, 1) := by decide +kernel
theorem dX12_unlike_0 : decode cX12_unlike 0 = .ok (.iconst 0, 1) := by decide +kernel
theorem dX12_unlike_1 : decode cX12_unlike 1 = .ok (.istore_n 3, 1) := by decide +kernel
theorem dX12_unlike_2 : decode cX12_unlike 2 = .ok (.iconst 0, 1) := by decide +kernel
theorem dX12_unlike_3 : decode cX12_unlike 3 = .ok (.istore 4, 2) := by decide +kernel
theorem dX12_unlike_5 : decode cX12_unlike 5 = .ok (.iload 4, 2) := by decide +kernel
theorem dX12_unlike_7 : decode cX12_unlike 7 = .ok (.aload_n 0, 1) := by decide +kernel
theorem dX12_unlike_8 : decode cX12_unlike 8 = .ok (.getfield 13, 3) := by decide +kernel
theorem dX12_unlike_11 : decode cX12_unlike 11 = .ok (.if_icmp .ge 34, 3) := by decide +kernel
theorem dX12_unlike_14 : decode cX12_unlike 14 = .ok (.iload_n 3, 1) := by decide +kernel
theorem dX12_unlike_15 : decode cX12_unlike 15 = .ok (.aload_n 0, 1) := by decide +kernel
theorem dX12_unlike_16 : decode cX12_unlike 16 = .ok (.iload_n 1, 1) := by decide +kernel
theorem dX12_unlike_17 : decode cX12_unlike 17 = .ok (.iload 4, 2) := by decide +kernel
theorem dX12_unlike_19 : decode cX12_unlike 19 = .ok (.invokevirtual 124, 3) := by decide +kernel
theorem dX12_unlike_22 : decode cX12_unlike 22 = .ok (.aload_n 0, 1) := by decide +kernel
theorem dX12_unlike_23 : decode cX12_unlike 23 = .ok (.iload_n 2, 1) := by decide +kernel
theorem dX12_unlike_24 : decode cX12_unlike 24 = .ok (.iload 4, 2) := by decide +kernel
theorem dX12_unlike_26 : decode cX12_unlike 26 = .ok (.invokevirtual 124, 3) := by decide +kernel
theorem dX12_unlike_29 : decode cX12_unlike 29 = .ok (.if_icmp .ne 7, 3) := by decide +kernel
theorem dX12_unlike_32 : decode cX12_unlike 32 = .ok (.iconst 0, 1) := by decide +kernel
theorem dX12_unlike_33 : decode cX12_unlike 33 = .ok (.goto 4, 3) := by decide +kernel
theorem dX12_unlike_36 : decode cX12_unlike 36 = .ok (.iconst 1, 1) := by decide +kernel
theorem dX12_unlike_37 : decode cX12_unlike 37 = .ok (.iadd, 1) := by decide +kernel
theorem dX12_unlike_38 : decode cX12_unlike 38 = .ok (.istore_n 3, 1) := by decide +kernel
theorem dX12_unlike_39 : decode cX12_unlike 39 = .ok (.iinc 4 1, 3) := by decide +kernel
theorem dX12_unlike_42 : decode cX12_unlike 42 = .ok (.goto (-37), 3) := by decide +kernel
theorem dX12_unlike_45 : decode cX12_unlike 45 = .ok (.iload_n 3, 1) := by decide +kernel
theorem dX12_unlike_46 : decode cX12_unlike 46 = .ok (.ireturn, 1) := by decide +kernel
theorem dX12_layCode_0 : decode cX12_layCode 0 = .ok (.aload_n 0, 1) := by decide +kernel
theorem dX12_layCode_1 : decode cX12_layCode 1 = .ok (.iconst 0, 1) := by decide +kernel
theorem dX12_layCode_2 : decode cX12_layCode 2 = .ok (.putfield 230, 3) := by decide +kernel
theorem dX12_layCode_5 : decode cX12_layCode 5 = .ok (.iconst 0, 1) := by decide +kernel
theorem dX12_layCode_6 : decode cX12_layCode 6 = .ok (.istore_n 2, 1) := by decide +kernel
theorem dX12_layCode_7 : decode cX12_layCode 7 = .ok (.iload_n 2, 1) := by decide +kernel
theorem dX12_layCode_8 : decode cX12_layCode 8 = .ok (.aload_n 0, 1) := by decide +kernel
theorem dX12_layCode_9 : decode cX12_layCode 9 = .ok (.invokevirtual 221, 3) := by decide +kernel
theorem dX12_layCode_12 : decode cX12_layCode 12 = .ok (.if_icmp .ge 79, 3) := by decide +kernel
theorem dX12_layCode_15 : decode cX12_layCode 15 = .ok (.iconst 1, 1) := by decide +kernel
theorem dX12_layCode_16 : decode cX12_layCode 16 = .ok (.istore_n 3, 1) := by decide +kernel
theorem dX12_layCode_17 : decode cX12_layCode 17 = .ok (.iconst 0, 1) := by decide +kernel
theorem dX12_layCode_18 : decode cX12_layCode 18 = .ok (.istore 4, 2) := by decide +kernel
theorem dX12_layCode_20 : decode cX12_layCode 20 = .ok (.iload 4, 2) := by decide +kernel
theorem dX12_layCode_22 : decode cX12_layCode 22 = .ok (.aload_n 0, 1) := by decide +kernel
theorem dX12_layCode_23 : decode cX12_layCode 23 = .ok (.getfield 230, 3) := by decide +kernel
theorem dX12_layCode_26 : decode cX12_layCode 26 = .ok (.if_icmp .ge 35, 3) := by decide +kernel
theorem dX12_layCode_29 : decode cX12_layCode 29 = .ok (.iload_n 3, 1) := by decide +kernel
theorem dX12_layCode_30 : decode cX12_layCode 30 = .ok (.ifCond .eq 31, 3) := by decide +kernel
theorem dX12_layCode_33 : decode cX12_layCode 33 = .ok (.aload_n 0, 1) := by decide +kernel
theorem dX12_layCode_34 : decode cX12_layCode 34 = .ok (.iload_n 2, 1) := by decide +kernel
theorem dX12_layCode_35 : decode cX12_layCode 35 = .ok (.aload_n 0, 1) := by decide +kernel
theorem dX12_layCode_36 : decode cX12_layCode 36 = .ok (.getfield 48, 3) := by decide +kernel
theorem dX12_layCode_39 : decode cX12_layCode 39 = .ok (.iload 4, 2) := by decide +kernel
theorem dX12_layCode_41 : decode cX12_layCode 41 = .ok (.iaload, 1) := by decide +kernel
theorem dX12_layCode_42 : decode cX12_layCode 42 = .ok (.invokevirtual 233, 3) := by decide +kernel
theorem dX12_layCode_45 : decode cX12_layCode 45 = .ok (.iload_n 1, 1) := by decide +kernel
theorem dX12_layCode_46 : decode cX12_layCode 46 = .ok (.if_icmp .lt 7, 3) := by decide +kernel
theorem dX12_layCode_49 : decode cX12_layCode 49 = .ok (.iconst 1, 1) := by decide +kernel
theorem dX12_layCode_50 : decode cX12_layCode 50 = .ok (.goto 4, 3) := by decide +kernel
theorem dX12_layCode_53 : decode cX12_layCode 53 = .ok (.iconst 0, 1) := by decide +kernel
theorem dX12_layCode_54 : decode cX12_layCode 54 = .ok (.istore_n 3, 1) := by decide +kernel
theorem dX12_layCode_55 : decode cX12_layCode 55 = .ok (.iinc 4 1, 3) := by decide +kernel
theorem dX12_layCode_58 : decode cX12_layCode 58 = .ok (.goto (-38), 3) := by decide +kernel
theorem dX12_layCode_61 : decode cX12_layCode 61 = .ok (.iload_n 3, 1) := by decide +kernel
theorem dX12_layCode_62 : decode cX12_layCode 62 = .ok (.ifCond .eq 23, 3) := by decide +kernel
theorem dX12_layCode_65 : decode cX12_layCode 65 = .ok (.aload_n 0, 1) := by decide +kernel
theorem dX12_layCode_66 : decode cX12_layCode 66 = .ok (.getfield 48, 3) := by decide +kernel
theorem dX12_layCode_69 : decode cX12_layCode 69 = .ok (.aload_n 0, 1) := by decide +kernel
theorem dX12_layCode_70 : decode cX12_layCode 70 = .ok (.getfield 230, 3) := by decide +kernel
theorem dX12_layCode_73 : decode cX12_layCode 73 = .ok (.iload_n 2, 1) := by decide +kernel
theorem dX12_layCode_74 : decode cX12_layCode 74 = .ok (.iastore, 1) := by decide +kernel
theorem dX12_layCode_75 : decode cX12_layCode 75 = .ok (.aload_n 0, 1) := by decide +kernel
theorem dX12_layCode_76 : decode cX12_layCode 76 = .ok (.dup, 1) := by decide +kernel
theorem dX12_layCode_77 : decode cX12_layCode 77 = .ok (.getfield 230, 3) := by decide +kernel
theorem dX12_layCode_80 : decode cX12_layCode 80 = .ok (.iconst 1, 1) := by decide +kernel
theorem dX12_layCode_81 : decode cX12_layCode 81 = .ok (.iadd, 1) := by decide +kernel
theorem dX12_layCode_82 : decode cX12_layCode 82 = .ok (.putfield 230, 3) := by decide +kernel
theorem dX12_layCode_85 : decode cX12_layCode 85 = .ok (.iinc 2 1, 3) := by decide +kernel
theorem dX12_layCode_88 : decode cX12_layCode 88 = .ok (.goto (-81), 3) := by decide +kernel
theorem dX12_layCode_91 : decode cX12_layCode 91 = .ok (.return_, 1) := by decide +kernel
theorem dX12_code_0 : decode cX12_code 0 = .ok (.aload_n 0, 1) := by decide +kernel
theorem dX12_code_1 : decode cX12_code 1 = .ok (.iconst 0, 1) := by decide +kernel
theorem dX12_code_2 : decode cX12_code 2 = .ok (.putfield 57, 3) := by decide +kernel
theorem dX12_code_5 : decode cX12_code 5 = .ok (.iload_n 1, 1) := by decide +kernel
theorem dX12_code_6 : decode cX12_code 6 = .ok (.i2l, 1) := by decide +kernel
theorem dX12_code_7 : decode cX12_code 7 = .ok (.lconst 1, 1) := by decide +kernel
theorem dX12_code_8 : decode cX12_code 8 = .ok (.ldc2_w 236, 3) := by decide +kernel
theorem dX12_code_11 : decode cX12_code 11 = .ok (.invokestatic 65, 3) := by decide +kernel
theorem dX12_code_14 : decode cX12_code 14 = .ok (.ifCond .ne 6, 3) := by decide +kernel
theorem dX12_code_17 : decode cX12_code 17 = .ok (.bipush (-2), 2) := by decide +kernel
theorem dX12_code_19 : decode cX12_code 19 = .ok (.ireturn, 1) := by decide +kernel
theorem dX12_code_20 : decode cX12_code 20 = .ok (.aload_n 0, 1) := by decide +kernel
theorem dX12_code_21 : decode cX12_code 21 = .ok (.iload_n 1, 1) := by decide +kernel
theorem dX12_code_22 : decode cX12_code 22 = .ok (.invokevirtual 238, 3) := by decide +kernel
theorem dX12_code_25 : decode cX12_code 25 = .ok (.aload_n 0, 1) := by decide +kernel
theorem dX12_code_26 : decode cX12_code 26 = .ok (.getfield 230, 3) := by decide +kernel
theorem dX12_code_29 : decode cX12_code 29 = .ok (.ireturn, 1) := by decide +kernel
theorem dX12_codeName_0 : decode cX12_codeName 0 = .ok (.aload_n 0, 1) := by decide +kernel
theorem dX12_codeName_1 : decode cX12_codeName 1 = .ok (.iconst 0, 1) := by decide +kernel
theorem dX12_codeName_2 : decode cX12_codeName 2 = .ok (.putfield 57, 3) := by decide +kernel
theorem dX12_codeName_5 : decode cX12_codeName 5 = .ok (.iload_n 1, 1) := by decide +kernel
theorem dX12_codeName_6 : decode cX12_codeName 6 = .ok (.i2l, 1) := by decide +kernel
theorem dX12_codeName_7 : decode cX12_codeName 7 = .ok (.lconst 1, 1) := by decide +kernel
theorem dX12_codeName_8 : decode cX12_codeName 8 = .ok (.ldc2_w 236, 3) := by decide +kernel
theorem dX12_codeName_11 : decode cX12_codeName 11 = .ok (.invokestatic 65, 3) := by decide +kernel
theorem dX12_codeName_14 : decode cX12_codeName 14 = .ok (.ifCond .ne 6, 3) := by decide +kernel
theorem dX12_codeName_17 : decode cX12_codeName 17 = .ok (.bipush (-2), 2) := by decide +kernel
theorem dX12_codeName_19 : decode cX12_codeName 19 = .ok (.ireturn, 1) := by decide +kernel
theorem dX12_codeName_20 : decode cX12_codeName 20 = .ok (.aload_n 0, 1) := by decide +kernel
theorem dX12_codeName_21 : decode cX12_codeName 21 = .ok (.iload_n 1, 1) := by decide +kernel
theorem dX12_codeName_22 : decode cX12_codeName 22 = .ok (.invokevirtual 238, 3) := by decide +kernel
theorem dX12_codeName_25 : decode cX12_codeName 25 = .ok (.iload_n 2, 1) := by decide +kernel
theorem dX12_codeName_26 : decode cX12_codeName 26 = .ok (.i2l, 1) := by decide +kernel
theorem dX12_codeName_27 : decode cX12_codeName 27 = .ok (.lconst 0, 1) := by decide +kernel
theorem dX12_codeName_28 : decode cX12_codeName 28 = .ok (.aload_n 0, 1) := by decide +kernel
theorem dX12_codeName_29 : decode cX12_codeName 29 = .ok (.getfield 230, 3) := by decide +kernel
theorem dX12_codeName_32 : decode cX12_codeName 32 = .ok (.iconst 1, 1) := by decide +kernel
theorem dX12_codeName_33 : decode cX12_codeName 33 = .ok (.isub, 1) := by decide +kernel
theorem dX12_codeName_34 : decode cX12_codeName 34 = .ok (.i2l, 1) := by decide +kernel
theorem dX12_codeName_35 : decode cX12_codeName 35 = .ok (.invokestatic 65, 3) := by decide +kernel
theorem dX12_codeName_38 : decode cX12_codeName 38 = .ok (.ifCond .eq 16, 3) := by decide +kernel
theorem dX12_codeName_41 : decode cX12_codeName 41 = .ok (.aload_n 0, 1) := by decide +kernel
theorem dX12_codeName_42 : decode cX12_codeName 42 = .ok (.aload_n 0, 1) := by decide +kernel
theorem dX12_codeName_43 : decode cX12_codeName 43 = .ok (.getfield 48, 3) := by decide +kernel
theorem dX12_codeName_46 : decode cX12_codeName 46 = .ok (.iload_n 2, 1) := by decide +kernel
theorem dX12_codeName_47 : decode cX12_codeName 47 = .ok (.iaload, 1) := by decide +kernel
theorem dX12_codeName_48 : decode cX12_codeName 48 = .ok (.invokevirtual 135, 3) := by decide +kernel
theorem dX12_codeName_51 : decode cX12_codeName 51 = .ok (.goto 5, 3) := by decide +kernel
theorem dX12_codeName_54 : decode cX12_codeName 54 = .ok (.bipush (-3), 2) := by decide +kernel
theorem dX12_codeName_56 : decode cX12_codeName 56 = .ok (.ireturn, 1) := by decide +kernel
theorem dX12_rightBy_0 : decode cX12_rightBy 0 = .ok (.aload_n 0, 1) := by decide +kernel
theorem dX12_rightBy_1 : decode cX12_rightBy 1 = .ok (.aload_n 0, 1) := by decide +kernel
theorem dX12_rightBy_2 : decode cX12_rightBy 2 = .ok (.getfield 32, 3) := by decide +kernel
theorem dX12_rightBy_5 : decode cX12_rightBy 5 = .ok (.iconst 0, 1) := by decide +kernel
theorem dX12_rightBy_6 : decode cX12_rightBy 6 = .ok (.iaload, 1) := by decide +kernel
theorem dX12_rightBy_7 : decode cX12_rightBy 7 = .ok (.aload_n 0, 1) := by decide +kernel
theorem dX12_rightBy_8 : decode cX12_rightBy 8 = .ok (.getfield 32, 3) := by decide +kernel
theorem dX12_rightBy_11 : decode cX12_rightBy 11 = .ok (.iconst 2, 1) := by decide +kernel
theorem dX12_rightBy_12 : decode cX12_rightBy 12 = .ok (.iload_n 1, 1) := by decide +kernel
theorem dX12_rightBy_13 : decode cX12_rightBy 13 = .ok (.iadd, 1) := by decide +kernel
theorem dX12_rightBy_14 : decode cX12_rightBy 14 = .ok (.iaload, 1) := by decide +kernel
theorem dX12_rightBy_15 : decode cX12_rightBy 15 = .ok (.iload_n 3, 1) := by decide +kernel
theorem dX12_rightBy_16 : decode cX12_rightBy 16 = .ok (.iload 4, 2) := by decide +kernel
theorem dX12_rightBy_18 : decode cX12_rightBy 18 = .ok (.invokevirtual 149, 3) := by decide +kernel
theorem dX12_rightBy_21 : decode cX12_rightBy 21 = .ok (.istore 7, 2) := by decide +kernel
theorem dX12_rightBy_23 : decode cX12_rightBy 23 = .ok (.aload_n 0, 1) := by decide +kernel
theorem dX12_rightBy_24 : decode cX12_rightBy 24 = .ok (.aload_n 0, 1) := by decide +kernel
theorem dX12_rightBy_25 : decode cX12_rightBy 25 = .ok (.iload 7, 2) := by decide +kernel
theorem dX12_rightBy_27 : decode cX12_rightBy 27 = .ok (.aload_n 0, 1) := by decide +kernel
theorem dX12_rightBy_28 : decode cX12_rightBy 28 = .ok (.getfield 32, 3) := by decide +kernel
theorem dX12_rightBy_31 : decode cX12_rightBy 31 = .ok (.iconst 2, 1) := by decide +kernel
theorem dX12_rightBy_32 : decode cX12_rightBy 32 = .ok (.iload_n 2, 1) := by decide +kernel
theorem dX12_rightBy_33 : decode cX12_rightBy 33 = .ok (.iadd, 1) := by decide +kernel
theorem dX12_rightBy_34 : decode cX12_rightBy 34 = .ok (.iaload, 1) := by decide +kernel
theorem dX12_rightBy_35 : decode cX12_rightBy 35 = .ok (.iload 5, 2) := by decide +kernel
theorem dX12_rightBy_37 : decode cX12_rightBy 37 = .ok (.iload 6, 2) := by decide +kernel
theorem dX12_rightBy_39 : decode cX12_rightBy 39 = .ok (.invokevirtual 149, 3) := by decide +kernel
theorem dX12_rightBy_42 : decode cX12_rightBy 42 = .ok (.invokevirtual 139, 3) := by decide +kernel
theorem dX12_rightBy_45 : decode cX12_rightBy 45 = .ok (.ireturn, 1) := by decide +kernel
theorem dX12_rests_0 : decode cX12_rests 0 = .ok (.aload_n 0, 1) := by decide +kernel
theorem dX12_rests_1 : decode cX12_rests 1 = .ok (.iconst 0, 1) := by decide +kernel
theorem dX12_rests_2 : decode cX12_rests 2 = .ok (.putfield 57, 3) := by decide +kernel
theorem dX12_rests_5 : decode cX12_rests 5 = .ok (.aload_n 0, 1) := by decide +kernel
theorem dX12_rests_6 : decode cX12_rests 6 = .ok (.iload_n 1, 1) := by decide +kernel
theorem dX12_rests_7 : decode cX12_rests 7 = .ok (.invokevirtual 153, 3) := by decide +kernel
theorem dX12_rests_10 : decode cX12_rests 10 = .ok (.ifCond .ne 37, 3) := by decide +kernel
theorem dX12_rests_13 : decode cX12_rests 13 = .ok (.aload_n 0, 1) := by decide +kernel
theorem dX12_rests_14 : decode cX12_rests 14 = .ok (.iload_n 3, 1) := by decide +kernel
theorem dX12_rests_15 : decode cX12_rests 15 = .ok (.invokevirtual 153, 3) := by decide +kernel
theorem dX12_rests_18 : decode cX12_rests 18 = .ok (.ifCond .ne 29, 3) := by decide +kernel
theorem dX12_rests_21 : decode cX12_rests 21 = .ok (.iload_n 2, 1) := by decide +kernel
theorem dX12_rests_22 : decode cX12_rests 22 = .ok (.invokestatic 156, 3) := by decide +kernel
theorem dX12_rests_25 : decode cX12_rests 25 = .ok (.ifCond .ne 22, 3) := by decide +kernel
theorem dX12_rests_28 : decode cX12_rests 28 = .ok (.iload 4, 2) := by decide +kernel
theorem dX12_rests_30 : decode cX12_rests 30 = .ok (.invokestatic 156, 3) := by decide +kernel
theorem dX12_rests_33 : decode cX12_rests 33 = .ok (.ifCond .ne 14, 3) := by decide +kernel
theorem dX12_rests_36 : decode cX12_rests 36 = .ok (.iload 5, 2) := by decide +kernel
theorem dX12_rests_38 : decode cX12_rests 38 = .ok (.i2l, 1) := by decide +kernel
theorem dX12_rests_39 : decode cX12_rests 39 = .ok (.lconst 0, 1) := by decide +kernel
theorem dX12_rests_40 : decode cX12_rests 40 = .ok (.lconst 1, 1) := by decide +kernel
theorem dX12_rests_41 : decode cX12_rests 41 = .ok (.invokestatic 65, 3) := by decide +kernel
theorem dX12_rests_44 : decode cX12_rests 44 = .ok (.ifCond .ne 6, 3) := by decide +kernel
theorem dX12_rests_47 : decode cX12_rests 47 = .ok (.bipush (-2), 2) := by decide +kernel
theorem dX12_rests_49 : decode cX12_rests 49 = .ok (.ireturn, 1) := by decide +kernel
theorem dX12_rests_50 : decode cX12_rests 50 = .ok (.iconst 0, 1) := by decide +kernel
theorem dX12_rests_51 : decode cX12_rests 51 = .ok (.istore 6, 2) := by decide +kernel
theorem dX12_rests_53 : decode cX12_rests 53 = .ok (.bipush (-9), 2) := by decide +kernel
theorem dX12_rests_55 : decode cX12_rests 55 = .ok (.istore 7, 2) := by decide +kernel
theorem dX12_rests_57 : decode cX12_rests 57 = .ok (.iconst 0, 1) := by decide +kernel
theorem dX12_rests_58 : decode cX12_rests 58 = .ok (.istore 8, 2) := by decide +kernel
theorem dX12_rests_60 : decode cX12_rests 60 = .ok (.iload 8, 2) := by decide +kernel
theorem dX12_rests_62 : decode cX12_rests 62 = .ok (.aload_n 0, 1) := by decide +kernel
theorem dX12_rests_63 : decode cX12_rests 63 = .ok (.getfield 62, 3) := by decide +kernel
theorem dX12_rests_66 : decode cX12_rests 66 = .ok (.if_icmp .ge 151, 3) := by decide +kernel
theorem dX12_rests_69 : decode cX12_rests 69 = .ok (.iconst 0, 1) := by decide +kernel
theorem dX12_rests_70 : decode cX12_rests 70 = .ok (.istore 9, 2) := by decide +kernel
theorem dX12_rests_72 : decode cX12_rests 72 = .ok (.iload 9, 2) := by decide +kernel
theorem dX12_rests_74 : decode cX12_rests 74 = .ok (.aload_n 0, 1) := by decide +kernel
theorem dX12_rests_75 : decode cX12_rests 75 = .ok (.getfield 62, 3) := by decide +kernel
theorem dX12_rests_78 : decode cX12_rests 78 = .ok (.if_icmp .ge 133, 3) := by decide +kernel
theorem dX12_rests_81 : decode cX12_rests 81 = .ok (.aload_n 0, 1) := by decide +kernel
theorem dX12_rests_82 : decode cX12_rests 82 = .ok (.iload 8, 2) := by decide +kernel
theorem dX12_rests_84 : decode cX12_rests 84 = .ok (.iload 9, 2) := by decide +kernel
theorem dX12_rests_86 : decode cX12_rests 86 = .ok (.iload_n 1, 1) := by decide +kernel
theorem dX12_rests_87 : decode cX12_rests 87 = .ok (.iload_n 2, 1) := by decide +kernel
theorem dX12_rests_88 : decode cX12_rests 88 = .ok (.iload_n 3, 1) := by decide +kernel
theorem dX12_rests_89 : decode cX12_rests 89 = .ok (.iload 4, 2) := by decide +kernel
theorem dX12_rests_91 : decode cX12_rests 91 = .ok (.invokevirtual 242, 3) := by decide +kernel
theorem dX12_rests_94 : decode cX12_rests 94 = .ok (.istore 10, 2) := by decide +kernel
theorem dX12_rests_96 : decode cX12_rests 96 = .ok (.iconst 1, 1) := by decide +kernel
theorem dX12_rests_97 : decode cX12_rests 97 = .ok (.istore 11, 2) := by decide +kernel
theorem dX12_rests_99 : decode cX12_rests 99 = .ok (.iconst 0, 1) := by decide +kernel
theorem dX12_rests_100 : decode cX12_rests 100 = .ok (.istore 12, 2) := by decide +kernel
theorem dX12_rests_102 : decode cX12_rests 102 = .ok (.iload 12, 2) := by decide +kernel
theorem dX12_rests_104 : decode cX12_rests 104 = .ok (.aload_n 0, 1) := by decide +kernel
theorem dX12_rests_105 : decode cX12_rests 105 = .ok (.getfield 62, 3) := by decide +kernel
theorem dX12_rests_108 : decode cX12_rests 108 = .ok (.if_icmp .ge 57, 3) := by decide +kernel
theorem dX12_rests_111 : decode cX12_rests 111 = .ok (.iload 11, 2) := by decide +kernel
theorem dX12_rests_113 : decode cX12_rests 113 = .ok (.ifCond .eq 43, 3) := by decide +kernel
theorem dX12_rests_116 : decode cX12_rests 116 = .ok (.aload_n 0, 1) := by decide +kernel
theorem dX12_rests_117 : decode cX12_rests 117 = .ok (.iload 12, 2) := by decide +kernel
theorem dX12_rests_119 : decode cX12_rests 119 = .ok (.iload 9, 2) := by decide +kernel
theorem dX12_rests_121 : decode cX12_rests 121 = .ok (.iload_n 1, 1) := by decide +kernel
theorem dX12_rests_122 : decode cX12_rests 122 = .ok (.iload_n 2, 1) := by decide +kernel
theorem dX12_rests_123 : decode cX12_rests 123 = .ok (.iload_n 3, 1) := by decide +kernel
theorem dX12_rests_124 : decode cX12_rests 124 = .ok (.iload 4, 2) := by decide +kernel
theorem dX12_rests_126 : decode cX12_rests 126 = .ok (.invokevirtual 242, 3) := by decide +kernel
theorem dX12_rests_129 : decode cX12_rests 129 = .ok (.iload 10, 2) := by decide +kernel
theorem dX12_rests_131 : decode cX12_rests 131 = .ok (.if_icmp .gt 25, 3) := by decide +kernel
theorem dX12_rests_134 : decode cX12_rests 134 = .ok (.aload_n 0, 1) := by decide +kernel
theorem dX12_rests_135 : decode cX12_rests 135 = .ok (.iload 8, 2) := by decide +kernel
theorem dX12_rests_137 : decode cX12_rests 137 = .ok (.iload 12, 2) := by decide +kernel
theorem dX12_rests_139 : decode cX12_rests 139 = .ok (.iload_n 1, 1) := by decide +kernel
theorem dX12_rests_140 : decode cX12_rests 140 = .ok (.iload_n 2, 1) := by decide +kernel
theorem dX12_rests_141 : decode cX12_rests 141 = .ok (.iload_n 3, 1) := by decide +kernel
theorem dX12_rests_142 : decode cX12_rests 142 = .ok (.iload 4, 2) := by decide +kernel
theorem dX12_rests_144 : decode cX12_rests 144 = .ok (.invokevirtual 242, 3) := by decide +kernel
theorem dX12_rests_147 : decode cX12_rests 147 = .ok (.iload 10, 2) := by decide +kernel
theorem dX12_rests_149 : decode cX12_rests 149 = .ok (.if_icmp .lt 7, 3) := by decide +kernel
theorem dX12_rests_152 : decode cX12_rests 152 = .ok (.iconst 1, 1) := by decide +kernel
theorem dX12_rests_153 : decode cX12_rests 153 = .ok (.goto 4, 3) := by decide +kernel
theorem dX12_rests_156 : decode cX12_rests 156 = .ok (.iconst 0, 1) := by decide +kernel
theorem dX12_rests_157 : decode cX12_rests 157 = .ok (.istore 11, 2) := by decide +kernel
theorem dX12_rests_159 : decode cX12_rests 159 = .ok (.iinc 12 1, 3) := by decide +kernel
theorem dX12_rests_162 : decode cX12_rests 162 = .ok (.goto (-60), 3) := by decide +kernel
theorem dX12_rests_165 : decode cX12_rests 165 = .ok (.iload 11, 2) := by decide +kernel
theorem dX12_rests_167 : decode cX12_rests 167 = .ok (.ifCond .eq 19, 3) := by decide +kernel
theorem dX12_rests_170 : decode cX12_rests 170 = .ok (.iload 6, 2) := by decide +kernel
theorem dX12_rests_172 : decode cX12_rests 172 = .ok (.ifCond .ne 14, 3) := by decide +kernel
theorem dX12_rests_175 : decode cX12_rests 175 = .ok (.bipush 10, 2) := by decide +kernel
theorem dX12_rests_177 : decode cX12_rests 177 = .ok (.iload 8, 2) := by decide +kernel
theorem dX12_rests_179 : decode cX12_rests 179 = .ok (.imul, 1) := by decide +kernel
theorem dX12_rests_180 : decode cX12_rests 180 = .ok (.iload 9, 2) := by decide +kernel
theorem dX12_rests_182 : decode cX12_rests 182 = .ok (.iadd, 1) := by decide +kernel
theorem dX12_rests_183 : decode cX12_rests 183 = .ok (.goto 5, 3) := by decide +kernel
theorem dX12_rests_186 : decode cX12_rests 186 = .ok (.iload 7, 2) := by decide +kernel
theorem dX12_rests_188 : decode cX12_rests 188 = .ok (.istore 7, 2) := by decide +kernel
theorem dX12_rests_190 : decode cX12_rests 190 = .ok (.iload 6, 2) := by decide +kernel
theorem dX12_rests_192 : decode cX12_rests 192 = .ok (.iload 11, 2) := by decide +kernel
theorem dX12_rests_194 : decode cX12_rests 194 = .ok (.ifCond .eq 7, 3) := by decide +kernel
theorem dX12_rests_197 : decode cX12_rests 197 = .ok (.iconst 1, 1) := by decide +kernel
theorem dX12_rests_198 : decode cX12_rests 198 = .ok (.goto 4, 3) := by decide +kernel
theorem dX12_rests_201 : decode cX12_rests 201 = .ok (.iconst 0, 1) := by decide +kernel
theorem dX12_rests_202 : decode cX12_rests 202 = .ok (.iadd, 1) := by decide +kernel
theorem dX12_rests_203 : decode cX12_rests 203 = .ok (.istore 6, 2) := by decide +kernel
theorem dX12_rests_205 : decode cX12_rests 205 = .ok (.iinc 9 1, 3) := by decide +kernel
theorem dX12_rests_208 : decode cX12_rests 208 = .ok (.goto (-136), 3) := by decide +kernel
theorem dX12_rests_211 : decode cX12_rests 211 = .ok (.iinc 8 1, 3) := by decide +kernel
theorem dX12_rests_214 : decode cX12_rests 214 = .ok (.goto (-154), 3) := by decide +kernel
theorem dX12_rests_217 : decode cX12_rests 217 = .ok (.iload 5, 2) := by decide +kernel
theorem dX12_rests_219 : decode cX12_rests 219 = .ok (.ifCond .ne 8, 3) := by decide +kernel
theorem dX12_rests_222 : decode cX12_rests 222 = .ok (.iload 6, 2) := by decide +kernel
theorem dX12_rests_224 : decode cX12_rests 224 = .ok (.goto 5, 3) := by decide +kernel
theorem dX12_rests_227 : decode cX12_rests 227 = .ok (.iload 7, 2) := by decide +kernel
theorem dX12_rests_229 : decode cX12_rests 229 = .ok (.ireturn, 1) := by decide +kernel
theorem dX12_divisor_0 : decode cX12_divisor 0 = .ok (.iload_n 0, 1) := by decide +kernel
theorem dX12_divisor_1 : decode cX12_divisor 1 = .ok (.ifCond .ge 8, 3) := by decide +kernel
theorem dX12_divisor_4 : decode cX12_divisor 4 = .ok (.iload_n 0, 1) := by decide +kernel
theorem dX12_divisor_5 : decode cX12_divisor 5 = .ok (.ineg, 1) := by decide +kernel
theorem dX12_divisor_6 : decode cX12_divisor 6 = .ok (.goto 4, 3) := by decide +kernel
theorem dX12_divisor_9 : decode cX12_divisor 9 = .ok (.iload_n 0, 1) := by decide +kernel
theorem dX12_divisor_10 : decode cX12_divisor 10 = .ok (.istore_n 2, 1) := by decide +kernel
theorem dX12_divisor_11 : decode cX12_divisor 11 = .ok (.iload_n 1, 1) := by decide +kernel
theorem dX12_divisor_12 : decode cX12_divisor 12 = .ok (.istore_n 3, 1) := by decide +kernel
theorem dX12_divisor_13 : decode cX12_divisor 13 = .ok (.iload_n 3, 1) := by decide +kernel
theorem dX12_divisor_14 : decode cX12_divisor 14 = .ok (.ifCond .eq 16, 3) := by decide +kernel
theorem dX12_divisor_17 : decode cX12_divisor 17 = .ok (.iload_n 2, 1) := by decide +kernel
theorem dX12_divisor_18 : decode cX12_divisor 18 = .ok (.iload_n 3, 1) := by decide +kernel
theorem dX12_divisor_19 : decode cX12_divisor 19 = .ok (.irem, 1) := by decide +kernel
theorem dX12_divisor_20 : decode cX12_divisor 20 = .ok (.istore 4, 2) := by decide +kernel
theorem dX12_divisor_22 : decode cX12_divisor 22 = .ok (.iload_n 3, 1) := by decide +kernel
theorem dX12_divisor_23 : decode cX12_divisor 23 = .ok (.istore_n 2, 1) := by decide +kernel
theorem dX12_divisor_24 : decode cX12_divisor 24 = .ok (.iload 4, 2) := by decide +kernel
theorem dX12_divisor_26 : decode cX12_divisor 26 = .ok (.istore_n 3, 1) := by decide +kernel
theorem dX12_divisor_27 : decode cX12_divisor 27 = .ok (.goto (-14), 3) := by decide +kernel
theorem dX12_divisor_30 : decode cX12_divisor 30 = .ok (.iload_n 2, 1) := by decide +kernel
theorem dX12_divisor_31 : decode cX12_divisor 31 = .ok (.ireturn, 1) := by decide +kernel
theorem dX12_fraction_0 : decode cX12_fraction 0 = .ok (.iload_n 0, 1) := by decide +kernel
theorem dX12_fraction_1 : decode cX12_fraction 1 = .ok (.iload_n 1, 1) := by decide +kernel
theorem dX12_fraction_2 : decode cX12_fraction 2 = .ok (.invokestatic 246, 3) := by decide +kernel
theorem dX12_fraction_5 : decode cX12_fraction 5 = .ok (.istore_n 3, 1) := by decide +kernel
theorem dX12_fraction_6 : decode cX12_fraction 6 = .ok (.iload_n 2, 1) := by decide +kernel
theorem dX12_fraction_7 : decode cX12_fraction 7 = .ok (.ifCond .eq 9, 3) := by decide +kernel
theorem dX12_fraction_10 : decode cX12_fraction 10 = .ok (.iload_n 0, 1) := by decide +kernel
theorem dX12_fraction_11 : decode cX12_fraction 11 = .ok (.iload_n 3, 1) := by decide +kernel
theorem dX12_fraction_12 : decode cX12_fraction 12 = .ok (.idiv, 1) := by decide +kernel
theorem dX12_fraction_13 : decode cX12_fraction 13 = .ok (.goto 6, 3) := by decide +kernel
theorem dX12_fraction_16 : decode cX12_fraction 16 = .ok (.iload_n 1, 1) := by decide +kernel
theorem dX12_fraction_17 : decode cX12_fraction 17 = .ok (.iload_n 3, 1) := by decide +kernel
theorem dX12_fraction_18 : decode cX12_fraction 18 = .ok (.idiv, 1) := by decide +kernel
theorem dX12_fraction_19 : decode cX12_fraction 19 = .ok (.ireturn, 1) := by decide +kernel
theorem dX12_wrongOf_0 : decode cX12_wrongOf 0 = .ok (.iconst 0, 1) := by decide +kernel
theorem dX12_wrongOf_1 : decode cX12_wrongOf 1 = .ok (.istore_n 2, 1) := by decide +kernel
theorem dX12_wrongOf_2 : decode cX12_wrongOf 2 = .ok (.iload_n 2, 1) := by decide +kernel
theorem dX12_wrongOf_3 : decode cX12_wrongOf 3 = .ok (.aload_n 0, 1) := by decide +kernel
theorem dX12_wrongOf_4 : decode cX12_wrongOf 4 = .ok (.getfield 13, 3) := by decide +kernel
theorem dX12_wrongOf_7 : decode cX12_wrongOf 7 = .ok (.if_icmp .ge 29, 3) := by decide +kernel
theorem dX12_wrongOf_10 : decode cX12_wrongOf 10 = .ok (.aload_n 0, 1) := by decide +kernel
theorem dX12_wrongOf_11 : decode cX12_wrongOf 11 = .ok (.iload_n 1, 1) := by decide +kernel
theorem dX12_wrongOf_12 : decode cX12_wrongOf 12 = .ok (.iload_n 2, 1) := by decide +kernel
theorem dX12_wrongOf_13 : decode cX12_wrongOf 13 = .ok (.invokevirtual 124, 3) := by decide +kernel
theorem dX12_wrongOf_16 : decode cX12_wrongOf 16 = .ok (.aload_n 0, 1) := by decide +kernel
theorem dX12_wrongOf_17 : decode cX12_wrongOf 17 = .ok (.aload_n 0, 1) := by decide +kernel
theorem dX12_wrongOf_18 : decode cX12_wrongOf 18 = .ok (.getfield 115, 3) := by decide +kernel
theorem dX12_wrongOf_21 : decode cX12_wrongOf 21 = .ok (.iload_n 2, 1) := by decide +kernel
theorem dX12_wrongOf_22 : decode cX12_wrongOf 22 = .ok (.invokevirtual 124, 3) := by decide +kernel
theorem dX12_wrongOf_25 : decode cX12_wrongOf 25 = .ok (.if_icmp .eq 5, 3) := by decide +kernel
theorem dX12_wrongOf_28 : decode cX12_wrongOf 28 = .ok (.iload_n 2, 1) := by decide +kernel
theorem dX12_wrongOf_29 : decode cX12_wrongOf 29 = .ok (.ireturn, 1) := by decide +kernel
theorem dX12_wrongOf_30 : decode cX12_wrongOf 30 = .ok (.iinc 2 1, 3) := by decide +kernel
theorem dX12_wrongOf_33 : decode cX12_wrongOf 33 = .ok (.goto (-31), 3) := by decide +kernel
theorem dX12_wrongOf_36 : decode cX12_wrongOf 36 = .ok (.bipush (-9), 2) := by decide +kernel
theorem dX12_wrongOf_38 : decode cX12_wrongOf 38 = .ok (.ireturn, 1) := by decide +kernel
theorem dX12_chance_0 : decode cX12_chance 0 = .ok (.aload_n 0, 1) := by decide +kernel
theorem dX12_chance_1 : decode cX12_chance 1 = .ok (.iconst 0, 1) := by decide +kernel
theorem dX12_chance_2 : decode cX12_chance 2 = .ok (.putfield 57, 3) := by decide +kernel
theorem dX12_chance_5 : decode cX12_chance 5 = .ok (.aload_n 0, 1) := by decide +kernel
theorem dX12_chance_6 : decode cX12_chance 6 = .ok (.iload_n 1, 1) := by decide +kernel
theorem dX12_chance_7 : decode cX12_chance 7 = .ok (.invokevirtual 142, 3) := by decide +kernel
theorem dX12_chance_10 : decode cX12_chance 10 = .ok (.ifCond .eq 5, 3) := by decide +kernel
theorem dX12_chance_13 : decode cX12_chance 13 = .ok (.iconst (-1), 1) := by decide +kernel
theorem dX12_chance_14 : decode cX12_chance 14 = .ok (.ireturn, 1) := by decide +kernel
theorem dX12_chance_15 : decode cX12_chance 15 = .ok (.iload_n 2, 1) := by decide +kernel
theorem dX12_chance_16 : decode cX12_chance 16 = .ok (.i2l, 1) := by decide +kernel
theorem dX12_chance_17 : decode cX12_chance 17 = .ok (.lconst 1, 1) := by decide +kernel
theorem dX12_chance_18 : decode cX12_chance 18 = .ok (.ldc2_w 249, 3) := by decide +kernel
theorem dX12_chance_21 : decode cX12_chance 21 = .ok (.invokestatic 65, 3) := by decide +kernel
theorem dX12_chance_24 : decode cX12_chance 24 = .ok (.ifCond .eq 15, 3) := by decide +kernel
theorem dX12_chance_27 : decode cX12_chance 27 = .ok (.iload_n 3, 1) := by decide +kernel
theorem dX12_chance_28 : decode cX12_chance 28 = .ok (.i2l, 1) := by decide +kernel
theorem dX12_chance_29 : decode cX12_chance 29 = .ok (.lconst 0, 1) := by decide +kernel
theorem dX12_chance_30 : decode cX12_chance 30 = .ok (.ldc2_w 251, 3) := by decide +kernel
theorem dX12_chance_33 : decode cX12_chance 33 = .ok (.invokestatic 65, 3) := by decide +kernel
theorem dX12_chance_36 : decode cX12_chance 36 = .ok (.ifCond .ne 6, 3) := by decide +kernel
theorem dX12_chance_39 : decode cX12_chance 39 = .ok (.bipush (-2), 2) := by decide +kernel
theorem dX12_chance_41 : decode cX12_chance 41 = .ok (.ireturn, 1) := by decide +kernel
theorem dX12_chance_42 : decode cX12_chance 42 = .ok (.iconst 0, 1) := by decide +kernel
theorem dX12_chance_43 : decode cX12_chance 43 = .ok (.istore 5, 2) := by decide +kernel
theorem dX12_chance_45 : decode cX12_chance 45 = .ok (.iconst 0, 1) := by decide +kernel
theorem dX12_chance_46 : decode cX12_chance 46 = .ok (.istore 6, 2) := by decide +kernel
theorem dX12_chance_48 : decode cX12_chance 48 = .ok (.iload 6, 2) := by decide +kernel
theorem dX12_chance_50 : decode cX12_chance 50 = .ok (.iconst 1, 1) := by decide +kernel
theorem dX12_chance_51 : decode cX12_chance 51 = .ok (.iload_n 2, 1) := by decide +kernel
theorem dX12_chance_52 : decode cX12_chance 52 = .ok (.ishl, 1) := by decide +kernel
theorem dX12_chance_53 : decode cX12_chance 53 = .ok (.if_icmp .ge 139, 3) := by decide +kernel
theorem dX12_chance_56 : decode cX12_chance 56 = .ok (.iconst 1, 1) := by decide +kernel
theorem dX12_chance_57 : decode cX12_chance 57 = .ok (.istore 7, 2) := by decide +kernel
theorem dX12_chance_59 : decode cX12_chance 59 = .ok (.aload_n 0, 1) := by decide +kernel
theorem dX12_chance_60 : decode cX12_chance 60 = .ok (.getfield 32, 3) := by decide +kernel
theorem dX12_chance_63 : decode cX12_chance 63 = .ok (.iconst 0, 1) := by decide +kernel
theorem dX12_chance_64 : decode cX12_chance 64 = .ok (.iaload, 1) := by decide +kernel
theorem dX12_chance_65 : decode cX12_chance 65 = .ok (.istore 8, 2) := by decide +kernel
theorem dX12_chance_67 : decode cX12_chance 67 = .ok (.iconst 0, 1) := by decide +kernel
theorem dX12_chance_68 : decode cX12_chance 68 = .ok (.istore 9, 2) := by decide +kernel
theorem dX12_chance_70 : decode cX12_chance 70 = .ok (.iload 9, 2) := by decide +kernel
theorem dX12_chance_72 : decode cX12_chance 72 = .ok (.iload_n 2, 1) := by decide +kernel
theorem dX12_chance_73 : decode cX12_chance 73 = .ok (.if_icmp .ge 93, 3) := by decide +kernel
theorem dX12_chance_76 : decode cX12_chance 76 = .ok (.iload 6, 2) := by decide +kernel
theorem dX12_chance_78 : decode cX12_chance 78 = .ok (.iload 9, 2) := by decide +kernel
theorem dX12_chance_80 : decode cX12_chance 80 = .ok (.invokestatic 253, 3) := by decide +kernel
theorem dX12_chance_83 : decode cX12_chance 83 = .ok (.istore 10, 2) := by decide +kernel
theorem dX12_chance_85 : decode cX12_chance 85 = .ok (.aload_n 0, 1) := by decide +kernel
theorem dX12_chance_86 : decode cX12_chance 86 = .ok (.iload 8, 2) := by decide +kernel
theorem dX12_chance_88 : decode cX12_chance 88 = .ok (.invokevirtual 257, 3) := by decide +kernel
theorem dX12_chance_91 : decode cX12_chance 91 = .ok (.istore 11, 2) := by decide +kernel
theorem dX12_chance_93 : decode cX12_chance 93 = .ok (.iload 7, 2) := by decide +kernel
theorem dX12_chance_95 : decode cX12_chance 95 = .ok (.iload 10, 2) := by decide +kernel
theorem dX12_chance_97 : decode cX12_chance 97 = .ok (.ifCond .eq 7, 3) := by decide +kernel
theorem dX12_chance_100 : decode cX12_chance 100 = .ok (.iload_n 3, 1) := by decide +kernel
theorem dX12_chance_101 : decode cX12_chance 101 = .ok (.goto 7, 3) := by decide +kernel
theorem dX12_chance_104 : decode cX12_chance 104 = .ok (.bipush 10, 2) := by decide +kernel
theorem dX12_chance_106 : decode cX12_chance 106 = .ok (.iload_n 3, 1) := by decide +kernel
theorem dX12_chance_107 : decode cX12_chance 107 = .ok (.isub, 1) := by decide +kernel
theorem dX12_chance_108 : decode cX12_chance 108 = .ok (.imul, 1) := by decide +kernel
theorem dX12_chance_109 : decode cX12_chance 109 = .ok (.istore 7, 2) := by decide +kernel
theorem dX12_chance_111 : decode cX12_chance 111 = .ok (.iload 11, 2) := by decide +kernel
theorem dX12_chance_113 : decode cX12_chance 113 = .ok (.bipush (-9), 2) := by decide +kernel
theorem dX12_chance_115 : decode cX12_chance 115 = .ok (.if_icmp .ne 8, 3) := by decide +kernel
theorem dX12_chance_118 : decode cX12_chance 118 = .ok (.iload 8, 2) := by decide +kernel
theorem dX12_chance_120 : decode cX12_chance 120 = .ok (.goto 38, 3) := by decide +kernel
theorem dX12_chance_123 : decode cX12_chance 123 = .ok (.aload_n 0, 1) := by decide +kernel
theorem dX12_chance_124 : decode cX12_chance 124 = .ok (.iload 8, 2) := by decide +kernel
theorem dX12_chance_126 : decode cX12_chance 126 = .ok (.iload 10, 2) := by decide +kernel
theorem dX12_chance_128 : decode cX12_chance 128 = .ok (.ifCond .eq 14, 3) := by decide +kernel
theorem dX12_chance_131 : decode cX12_chance 131 = .ok (.aload_n 0, 1) := by decide +kernel
theorem dX12_chance_132 : decode cX12_chance 132 = .ok (.getfield 32, 3) := by decide +kernel
theorem dX12_chance_135 : decode cX12_chance 135 = .ok (.iconst 2, 1) := by decide +kernel
theorem dX12_chance_136 : decode cX12_chance 136 = .ok (.iload_n 1, 1) := by decide +kernel
theorem dX12_chance_137 : decode cX12_chance 137 = .ok (.iadd, 1) := by decide +kernel
theorem dX12_chance_138 : decode cX12_chance 138 = .ok (.iaload, 1) := by decide +kernel
theorem dX12_chance_139 : decode cX12_chance 139 = .ok (.goto 4, 3) := by decide +kernel
theorem dX12_chance_142 : decode cX12_chance 142 = .ok (.iconst 0, 1) := by decide +kernel
theorem dX12_chance_143 : decode cX12_chance 143 = .ok (.iload 11, 2) := by decide +kernel
theorem dX12_chance_145 : decode cX12_chance 145 = .ok (.aload_n 0, 1) := by decide +kernel
theorem dX12_chance_146 : decode cX12_chance 146 = .ok (.aload_n 0, 1) := by decide +kernel
theorem dX12_chance_147 : decode cX12_chance 147 = .ok (.getfield 115, 3) := by decide +kernel
theorem dX12_chance_150 : decode cX12_chance 150 = .ok (.iload 11, 2) := by decide +kernel
theorem dX12_chance_152 : decode cX12_chance 152 = .ok (.invokevirtual 124, 3) := by decide +kernel
theorem dX12_chance_155 : decode cX12_chance 155 = .ok (.invokevirtual 149, 3) := by decide +kernel
theorem dX12_chance_158 : decode cX12_chance 158 = .ok (.istore 8, 2) := by decide +kernel
theorem dX12_chance_160 : decode cX12_chance 160 = .ok (.iinc 9 1, 3) := by decide +kernel
theorem dX12_chance_163 : decode cX12_chance 163 = .ok (.goto (-93), 3) := by decide +kernel
theorem dX12_chance_166 : decode cX12_chance 166 = .ok (.iload 5, 2) := by decide +kernel
theorem dX12_chance_168 : decode cX12_chance 168 = .ok (.iload 8, 2) := by decide +kernel
theorem dX12_chance_170 : decode cX12_chance 170 = .ok (.aload_n 0, 1) := by decide +kernel
theorem dX12_chance_171 : decode cX12_chance 171 = .ok (.getfield 115, 3) := by decide +kernel
theorem dX12_chance_174 : decode cX12_chance 174 = .ok (.if_icmp .ne 8, 3) := by decide +kernel
theorem dX12_chance_177 : decode cX12_chance 177 = .ok (.iload 7, 2) := by decide +kernel
theorem dX12_chance_179 : decode cX12_chance 179 = .ok (.goto 4, 3) := by decide +kernel
theorem dX12_chance_182 : decode cX12_chance 182 = .ok (.iconst 0, 1) := by decide +kernel
theorem dX12_chance_183 : decode cX12_chance 183 = .ok (.iadd, 1) := by decide +kernel
theorem dX12_chance_184 : decode cX12_chance 184 = .ok (.istore 5, 2) := by decide +kernel
theorem dX12_chance_186 : decode cX12_chance 186 = .ok (.iinc 6 1, 3) := by decide +kernel
theorem dX12_chance_189 : decode cX12_chance 189 = .ok (.goto (-141), 3) := by decide +kernel
theorem dX12_chance_192 : decode cX12_chance 192 = .ok (.iload 5, 2) := by decide +kernel
theorem dX12_chance_194 : decode cX12_chance 194 = .ok (.bipush 10, 2) := by decide +kernel
theorem dX12_chance_196 : decode cX12_chance 196 = .ok (.iload_n 2, 1) := by decide +kernel
theorem dX12_chance_197 : decode cX12_chance 197 = .ok (.invokestatic 121, 3) := by decide +kernel
theorem dX12_chance_200 : decode cX12_chance 200 = .ok (.iload 4, 2) := by decide +kernel
theorem dX12_chance_202 : decode cX12_chance 202 = .ok (.invokestatic 260, 3) := by decide +kernel
theorem dX12_chance_205 : decode cX12_chance 205 = .ok (.ireturn, 1) := by decide +kernel
theorem dX12_mostRight_0 : decode cX12_mostRight 0 = .ok (.aload_n 0, 1) := by decide +kernel
theorem dX12_mostRight_1 : decode cX12_mostRight 1 = .ok (.aload_n 0, 1) := by decide +kernel
theorem dX12_mostRight_2 : decode cX12_mostRight 2 = .ok (.getfield 32, 3) := by decide +kernel
theorem dX12_mostRight_5 : decode cX12_mostRight 5 = .ok (.iconst 0, 1) := by decide +kernel
theorem dX12_mostRight_6 : decode cX12_mostRight 6 = .ok (.iaload, 1) := by decide +kernel
theorem dX12_mostRight_7 : decode cX12_mostRight 7 = .ok (.invokevirtual 139, 3) := by decide +kernel
theorem dX12_mostRight_10 : decode cX12_mostRight 10 = .ok (.istore_n 2, 1) := by decide +kernel
theorem dX12_mostRight_11 : decode cX12_mostRight 11 = .ok (.iconst 0, 1) := by decide +kernel
theorem dX12_mostRight_12 : decode cX12_mostRight 12 = .ok (.istore_n 3, 1) := by decide +kernel
theorem dX12_mostRight_13 : decode cX12_mostRight 13 = .ok (.iload_n 3, 1) := by decide +kernel
theorem dX12_mostRight_14 : decode cX12_mostRight 14 = .ok (.sipush 300, 3) := by decide +kernel
theorem dX12_mostRight_17 : decode cX12_mostRight 17 = .ok (.if_icmp .ge 58, 3) := by decide +kernel
theorem dX12_mostRight_20 : decode cX12_mostRight 20 = .ok (.aload_n 0, 1) := by decide +kernel
theorem dX12_mostRight_21 : decode cX12_mostRight 21 = .ok (.iload_n 3, 1) := by decide +kernel
theorem dX12_mostRight_22 : decode cX12_mostRight 22 = .ok (.invokevirtual 174, 3) := by decide +kernel
theorem dX12_mostRight_25 : decode cX12_mostRight 25 = .ok (.ifCond .ne 44, 3) := by decide +kernel
theorem dX12_mostRight_28 : decode cX12_mostRight 28 = .ok (.iload_n 1, 1) := by decide +kernel
theorem dX12_mostRight_29 : decode cX12_mostRight 29 = .ok (.iload_n 3, 1) := by decide +kernel
theorem dX12_mostRight_30 : decode cX12_mostRight 30 = .ok (.bipush 100, 2) := by decide +kernel
theorem dX12_mostRight_32 : decode cX12_mostRight 32 = .ok (.idiv, 1) := by decide +kernel
theorem dX12_mostRight_33 : decode cX12_mostRight 33 = .ok (.invokestatic 253, 3) := by decide +kernel
theorem dX12_mostRight_36 : decode cX12_mostRight 36 = .ok (.ifCond .eq 33, 3) := by decide +kernel
theorem dX12_mostRight_39 : decode cX12_mostRight 39 = .ok (.aload_n 0, 1) := by decide +kernel
theorem dX12_mostRight_40 : decode cX12_mostRight 40 = .ok (.aload_n 0, 1) := by decide +kernel
theorem dX12_mostRight_41 : decode cX12_mostRight 41 = .ok (.aload_n 0, 1) := by decide +kernel
theorem dX12_mostRight_42 : decode cX12_mostRight 42 = .ok (.getfield 32, 3) := by decide +kernel
theorem dX12_mostRight_45 : decode cX12_mostRight 45 = .ok (.iconst 0, 1) := by decide +kernel
theorem dX12_mostRight_46 : decode cX12_mostRight 46 = .ok (.iaload, 1) := by decide +kernel
theorem dX12_mostRight_47 : decode cX12_mostRight 47 = .ok (.iload_n 3, 1) := by decide +kernel
theorem dX12_mostRight_48 : decode cX12_mostRight 48 = .ok (.invokevirtual 177, 3) := by decide +kernel
theorem dX12_mostRight_51 : decode cX12_mostRight 51 = .ok (.invokevirtual 139, 3) := by decide +kernel
theorem dX12_mostRight_54 : decode cX12_mostRight 54 = .ok (.istore 4, 2) := by decide +kernel
theorem dX12_mostRight_56 : decode cX12_mostRight 56 = .ok (.iload 4, 2) := by decide +kernel
theorem dX12_mostRight_58 : decode cX12_mostRight 58 = .ok (.iload_n 2, 1) := by decide +kernel
theorem dX12_mostRight_59 : decode cX12_mostRight 59 = .ok (.if_icmp .le 8, 3) := by decide +kernel
theorem dX12_mostRight_62 : decode cX12_mostRight 62 = .ok (.iload 4, 2) := by decide +kernel
theorem dX12_mostRight_64 : decode cX12_mostRight 64 = .ok (.goto 4, 3) := by decide +kernel
theorem dX12_mostRight_67 : decode cX12_mostRight 67 = .ok (.iload_n 2, 1) := by decide +kernel
theorem dX12_mostRight_68 : decode cX12_mostRight 68 = .ok (.istore_n 2, 1) := by decide +kernel
theorem dX12_mostRight_69 : decode cX12_mostRight 69 = .ok (.iinc 3 1, 3) := by decide +kernel
theorem dX12_mostRight_72 : decode cX12_mostRight 72 = .ok (.goto (-59), 3) := by decide +kernel
theorem dX12_mostRight_75 : decode cX12_mostRight 75 = .ok (.iload_n 2, 1) := by decide +kernel
theorem dX12_mostRight_76 : decode cX12_mostRight 76 = .ok (.ireturn, 1) := by decide +kernel
theorem dX12_share_0 : decode cX12_share 0 = .ok (.aload_n 0, 1) := by decide +kernel
theorem dX12_share_1 : decode cX12_share 1 = .ok (.iconst 0, 1) := by decide +kernel
theorem dX12_share_2 : decode cX12_share 2 = .ok (.putfield 57, 3) := by decide +kernel
theorem dX12_share_5 : decode cX12_share 5 = .ok (.aload_n 0, 1) := by decide +kernel
theorem dX12_share_6 : decode cX12_share 6 = .ok (.iload_n 1, 1) := by decide +kernel
theorem dX12_share_7 : decode cX12_share 7 = .ok (.invokevirtual 142, 3) := by decide +kernel
theorem dX12_share_10 : decode cX12_share 10 = .ok (.ifCond .eq 5, 3) := by decide +kernel
theorem dX12_share_13 : decode cX12_share 13 = .ok (.iconst (-1), 1) := by decide +kernel
theorem dX12_share_14 : decode cX12_share 14 = .ok (.ireturn, 1) := by decide +kernel
theorem dX12_share_15 : decode cX12_share 15 = .ok (.iconst 0, 1) := by decide +kernel
theorem dX12_share_16 : decode cX12_share 16 = .ok (.istore_n 3, 1) := by decide +kernel
theorem dX12_share_17 : decode cX12_share 17 = .ok (.iload_n 3, 1) := by decide +kernel
theorem dX12_share_18 : decode cX12_share 18 = .ok (.iconst 1, 1) := by decide +kernel
theorem dX12_share_19 : decode cX12_share 19 = .ok (.aload_n 0, 1) := by decide +kernel
theorem dX12_share_20 : decode cX12_share 20 = .ok (.getfield 62, 3) := by decide +kernel
theorem dX12_share_23 : decode cX12_share 23 = .ok (.ishl, 1) := by decide +kernel
theorem dX12_share_24 : decode cX12_share 24 = .ok (.if_icmp .ge 20, 3) := by decide +kernel
theorem dX12_share_27 : decode cX12_share 27 = .ok (.aload_n 0, 1) := by decide +kernel
theorem dX12_share_28 : decode cX12_share 28 = .ok (.getfield 51, 3) := by decide +kernel
theorem dX12_share_31 : decode cX12_share 31 = .ok (.iload_n 3, 1) := by decide +kernel
theorem dX12_share_32 : decode cX12_share 32 = .ok (.aload_n 0, 1) := by decide +kernel
theorem dX12_share_33 : decode cX12_share 33 = .ok (.iload_n 3, 1) := by decide +kernel
theorem dX12_share_34 : decode cX12_share 34 = .ok (.invokevirtual 264, 3) := by decide +kernel
theorem dX12_share_37 : decode cX12_share 37 = .ok (.iastore, 1) := by decide +kernel
theorem dX12_share_38 : decode cX12_share 38 = .ok (.iinc 3 1, 3) := by decide +kernel
theorem dX12_share_41 : decode cX12_share 41 = .ok (.goto (-24), 3) := by decide +kernel
theorem dX12_share_44 : decode cX12_share 44 = .ok (.iconst 0, 1) := by decide +kernel
theorem dX12_share_45 : decode cX12_share 45 = .ok (.istore_n 3, 1) := by decide +kernel
theorem dX12_share_46 : decode cX12_share 46 = .ok (.aload_n 0, 1) := by decide +kernel
theorem dX12_share_47 : decode cX12_share 47 = .ok (.getfield 62, 3) := by decide +kernel
theorem dX12_share_50 : decode cX12_share 50 = .ok (.iconst 3, 1) := by decide +kernel
theorem dX12_share_51 : decode cX12_share 51 = .ok (.if_icmp .ne 8, 3) := by decide +kernel
theorem dX12_share_54 : decode cX12_share 54 = .ok (.bipush 6, 2) := by decide +kernel
theorem dX12_share_56 : decode cX12_share 56 = .ok (.goto 7, 3) := by decide +kernel
theorem dX12_share_59 : decode cX12_share 59 = .ok (.aload_n 0, 1) := by decide +kernel
theorem dX12_share_60 : decode cX12_share 60 = .ok (.getfield 62, 3) := by decide +kernel
theorem dX12_share_63 : decode cX12_share 63 = .ok (.istore 4, 2) := by decide +kernel
theorem dX12_share_65 : decode cX12_share 65 = .ok (.iconst 0, 1) := by decide +kernel
theorem dX12_share_66 : decode cX12_share 66 = .ok (.istore 5, 2) := by decide +kernel
theorem dX12_share_68 : decode cX12_share 68 = .ok (.iload 5, 2) := by decide +kernel
theorem dX12_share_70 : decode cX12_share 70 = .ok (.iconst 1, 1) := by decide +kernel
theorem dX12_share_71 : decode cX12_share 71 = .ok (.aload_n 0, 1) := by decide +kernel
theorem dX12_share_72 : decode cX12_share 72 = .ok (.getfield 62, 3) := by decide +kernel
theorem dX12_share_75 : decode cX12_share 75 = .ok (.ishl, 1) := by decide +kernel
theorem dX12_share_76 : decode cX12_share 76 = .ok (.if_icmp .ge 84, 3) := by decide +kernel
theorem dX12_share_79 : decode cX12_share 79 = .ok (.iload 5, 2) := by decide +kernel
theorem dX12_share_81 : decode cX12_share 81 = .ok (.iload_n 1, 1) := by decide +kernel
theorem dX12_share_82 : decode cX12_share 82 = .ok (.invokestatic 253, 3) := by decide +kernel
theorem dX12_share_85 : decode cX12_share 85 = .ok (.ifCond .ne 69, 3) := by decide +kernel
theorem dX12_share_88 : decode cX12_share 88 = .ok (.iload 5, 2) := by decide +kernel
theorem dX12_share_90 : decode cX12_share 90 = .ok (.iconst 1, 1) := by decide +kernel
theorem dX12_share_91 : decode cX12_share 91 = .ok (.iand, 1) := by decide +kernel
theorem dX12_share_92 : decode cX12_share 92 = .ok (.iload 5, 2) := by decide +kernel
theorem dX12_share_94 : decode cX12_share 94 = .ok (.iconst 1, 1) := by decide +kernel
theorem dX12_share_95 : decode cX12_share 95 = .ok (.ishr, 1) := by decide +kernel
theorem dX12_share_96 : decode cX12_share 96 = .ok (.iconst 1, 1) := by decide +kernel
theorem dX12_share_97 : decode cX12_share 97 = .ok (.iand, 1) := by decide +kernel
theorem dX12_share_98 : decode cX12_share 98 = .ok (.iadd, 1) := by decide +kernel
theorem dX12_share_99 : decode cX12_share 99 = .ok (.iload 5, 2) := by decide +kernel
theorem dX12_share_101 : decode cX12_share 101 = .ok (.iconst 2, 1) := by decide +kernel
theorem dX12_share_102 : decode cX12_share 102 = .ok (.ishr, 1) := by decide +kernel
theorem dX12_share_103 : decode cX12_share 103 = .ok (.iconst 1, 1) := by decide +kernel
theorem dX12_share_104 : decode cX12_share 104 = .ok (.iand, 1) := by decide +kernel
theorem dX12_share_105 : decode cX12_share 105 = .ok (.iadd, 1) := by decide +kernel
theorem dX12_share_106 : decode cX12_share 106 = .ok (.istore 6, 2) := by decide +kernel
theorem dX12_share_108 : decode cX12_share 108 = .ok (.aload_n 0, 1) := by decide +kernel
theorem dX12_share_109 : decode cX12_share 109 = .ok (.getfield 62, 3) := by decide +kernel
theorem dX12_share_112 : decode cX12_share 112 = .ok (.iconst 3, 1) := by decide +kernel
theorem dX12_share_113 : decode cX12_share 113 = .ok (.if_icmp .ne 13, 3) := by decide +kernel
theorem dX12_share_116 : decode cX12_share 116 = .ok (.iload 6, 2) := by decide +kernel
theorem dX12_share_118 : decode cX12_share 118 = .ok (.iconst 1, 1) := by decide +kernel
theorem dX12_share_119 : decode cX12_share 119 = .ok (.if_icmp .eq 7, 3) := by decide +kernel
theorem dX12_share_122 : decode cX12_share 122 = .ok (.iconst 2, 1) := by decide +kernel
theorem dX12_share_123 : decode cX12_share 123 = .ok (.goto 4, 3) := by decide +kernel
theorem dX12_share_126 : decode cX12_share 126 = .ok (.iconst 1, 1) := by decide +kernel
theorem dX12_share_127 : decode cX12_share 127 = .ok (.istore 7, 2) := by decide +kernel
theorem dX12_share_129 : decode cX12_share 129 = .ok (.iload_n 3, 1) := by decide +kernel
theorem dX12_share_130 : decode cX12_share 130 = .ok (.iload 7, 2) := by decide +kernel
theorem dX12_share_132 : decode cX12_share 132 = .ok (.aload_n 0, 1) := by decide +kernel
theorem dX12_share_133 : decode cX12_share 133 = .ok (.getfield 51, 3) := by decide +kernel
theorem dX12_share_136 : decode cX12_share 136 = .ok (.iload 5, 2) := by decide +kernel
theorem dX12_share_138 : decode cX12_share 138 = .ok (.iconst 1, 1) := by decide +kernel
theorem dX12_share_139 : decode cX12_share 139 = .ok (.iload_n 1, 1) := by decide +kernel
theorem dX12_share_140 : decode cX12_share 140 = .ok (.ishl, 1) := by decide +kernel
theorem dX12_share_141 : decode cX12_share 141 = .ok (.ior, 1) := by decide +kernel
theorem dX12_share_142 : decode cX12_share 142 = .ok (.iaload, 1) := by decide +kernel
theorem dX12_share_143 : decode cX12_share 143 = .ok (.aload_n 0, 1) := by decide +kernel
theorem dX12_share_144 : decode cX12_share 144 = .ok (.getfield 51, 3) := by decide +kernel
theorem dX12_share_147 : decode cX12_share 147 = .ok (.iload 5, 2) := by decide +kernel
theorem dX12_share_149 : decode cX12_share 149 = .ok (.iaload, 1) := by decide +kernel
theorem dX12_share_150 : decode cX12_share 150 = .ok (.isub, 1) := by decide +kernel
theorem dX12_share_151 : decode cX12_share 151 = .ok (.imul, 1) := by decide +kernel
theorem dX12_share_152 : decode cX12_share 152 = .ok (.iadd, 1) := by decide +kernel
theorem dX12_share_153 : decode cX12_share 153 = .ok (.istore_n 3, 1) := by decide +kernel
theorem dX12_share_154 : decode cX12_share 154 = .ok (.iinc 5 1, 3) := by decide +kernel
theorem dX12_share_157 : decode cX12_share 157 = .ok (.goto (-89), 3) := by decide +kernel
theorem dX12_share_160 : decode cX12_share 160 = .ok (.iload_n 3, 1) := by decide +kernel
theorem dX12_share_161 : decode cX12_share 161 = .ok (.iload 4, 2) := by decide +kernel
theorem dX12_share_163 : decode cX12_share 163 = .ok (.iload_n 2, 1) := by decide +kernel
theorem dX12_share_164 : decode cX12_share 164 = .ok (.invokestatic 260, 3) := by decide +kernel
theorem dX12_share_167 : decode cX12_share 167 = .ok (.ireturn, 1) := by decide +kernel
theorem dX12_seed_0 : decode cX12_seed 0 = .ok (.aload_n 0, 1) := by decide +kernel
theorem dX12_seed_1 : decode cX12_seed 1 = .ok (.iconst 0, 1) := by decide +kernel
theorem dX12_seed_2 : decode cX12_seed 2 = .ok (.putfield 57, 3) := by decide +kernel
theorem dX12_seed_5 : decode cX12_seed 5 = .ok (.aload_n 0, 1) := by decide +kernel
theorem dX12_seed_6 : decode cX12_seed 6 = .ok (.getfield 267, 3) := by decide +kernel
theorem dX12_seed_9 : decode cX12_seed 9 = .ok (.lstore_n 3, 1) := by decide +kernel
theorem dX12_seed_10 : decode cX12_seed 10 = .ok (.aload_n 0, 1) := by decide +kernel
theorem dX12_seed_11 : decode cX12_seed 11 = .ok (.lload_n 1, 1) := by decide +kernel
theorem dX12_seed_12 : decode cX12_seed 12 = .ok (.putfield 267, 3) := by decide +kernel
theorem dX12_seed_15 : decode cX12_seed 15 = .ok (.lload_n 3, 1) := by decide +kernel
theorem dX12_seed_16 : decode cX12_seed 16 = .ok (.lreturn, 1) := by decide +kernel
theorem dX12_years_0 : decode cX12_years 0 = .ok (.aload_n 0, 1) := by decide +kernel
theorem dX12_years_1 : decode cX12_years 1 = .ok (.iconst 0, 1) := by decide +kernel
theorem dX12_years_2 : decode cX12_years 2 = .ok (.putfield 57, 3) := by decide +kernel
theorem dX12_years_5 : decode cX12_years 5 = .ok (.iload_n 1, 1) := by decide +kernel
theorem dX12_years_6 : decode cX12_years 6 = .ok (.i2l, 1) := by decide +kernel
theorem dX12_years_7 : decode cX12_years 7 = .ok (.lconst 1, 1) := by decide +kernel
theorem dX12_years_8 : decode cX12_years 8 = .ok (.ldc2_w 271, 3) := by decide +kernel
theorem dX12_years_11 : decode cX12_years 11 = .ok (.invokestatic 65, 3) := by decide +kernel
theorem dX12_years_14 : decode cX12_years 14 = .ok (.ifCond .ne 6, 3) := by decide +kernel
theorem dX12_years_17 : decode cX12_years 17 = .ok (.bipush (-2), 2) := by decide +kernel
theorem dX12_years_19 : decode cX12_years 19 = .ok (.ireturn, 1) := by decide +kernel
theorem dX12_years_20 : decode cX12_years 20 = .ok (.aload_n 0, 1) := by decide +kernel
theorem dX12_years_21 : decode cX12_years 21 = .ok (.getfield 32, 3) := by decide +kernel
theorem dX12_years_24 : decode cX12_years 24 = .ok (.iconst 0, 1) := by decide +kernel
theorem dX12_years_25 : decode cX12_years 25 = .ok (.iaload, 1) := by decide +kernel
theorem dX12_years_26 : decode cX12_years 26 = .ok (.istore_n 2, 1) := by decide +kernel
theorem dX12_years_27 : decode cX12_years 27 = .ok (.iconst 0, 1) := by decide +kernel
theorem dX12_years_28 : decode cX12_years 28 = .ok (.istore_n 3, 1) := by decide +kernel
theorem dX12_years_29 : decode cX12_years 29 = .ok (.iconst 0, 1) := by decide +kernel
theorem dX12_years_30 : decode cX12_years 30 = .ok (.istore 4, 2) := by decide +kernel
theorem dX12_years_32 : decode cX12_years 32 = .ok (.iload 4, 2) := by decide +kernel
theorem dX12_years_34 : decode cX12_years 34 = .ok (.iload_n 1, 1) := by decide +kernel
theorem dX12_years_35 : decode cX12_years 35 = .ok (.if_icmp .ge 94, 3) := by decide +kernel
theorem dX12_years_38 : decode cX12_years 38 = .ok (.aload_n 0, 1) := by decide +kernel
theorem dX12_years_39 : decode cX12_years 39 = .ok (.aload_n 0, 1) := by decide +kernel
theorem dX12_years_40 : decode cX12_years 40 = .ok (.getfield 267, 3) := by decide +kernel
theorem dX12_years_43 : decode cX12_years 43 = .ok (.ldc2_w 273, 3) := by decide +kernel
theorem dX12_years_46 : decode cX12_years 46 = .ok (.lmul, 1) := by decide +kernel
theorem dX12_years_47 : decode cX12_years 47 = .ok (.ldc2_w 275, 3) := by decide +kernel
theorem dX12_years_50 : decode cX12_years 50 = .ok (.ladd, 1) := by decide +kernel
theorem dX12_years_51 : decode cX12_years 51 = .ok (.putfield 267, 3) := by decide +kernel
theorem dX12_years_54 : decode cX12_years 54 = .ok (.aload_n 0, 1) := by decide +kernel
theorem dX12_years_55 : decode cX12_years 55 = .ok (.getfield 267, 3) := by decide +kernel
theorem dX12_years_58 : decode cX12_years 58 = .ok (.bipush 33, 2) := by decide +kernel
theorem dX12_years_60 : decode cX12_years 60 = .ok (.lushr, 1) := by decide +kernel
theorem dX12_years_61 : decode cX12_years 61 = .ok (.ldc2_w 277, 3) := by decide +kernel
theorem dX12_years_64 : decode cX12_years 64 = .ok (.lrem, 1) := by decide +kernel
theorem dX12_years_65 : decode cX12_years 65 = .ok (.l2i, 1) := by decide +kernel
theorem dX12_years_66 : decode cX12_years 66 = .ok (.istore 5, 2) := by decide +kernel
theorem dX12_years_68 : decode cX12_years 68 = .ok (.iload 5, 2) := by decide +kernel
theorem dX12_years_70 : decode cX12_years 70 = .ok (.bipush 20, 2) := by decide +kernel
theorem dX12_years_72 : decode cX12_years 72 = .ok (.idiv, 1) := by decide +kernel
theorem dX12_years_73 : decode cX12_years 73 = .ok (.bipush 100, 2) := by decide +kernel
theorem dX12_years_75 : decode cX12_years 75 = .ok (.imul, 1) := by decide +kernel
theorem dX12_years_76 : decode cX12_years 76 = .ok (.iload 5, 2) := by decide +kernel
theorem dX12_years_78 : decode cX12_years 78 = .ok (.bipush 20, 2) := by decide +kernel
theorem dX12_years_80 : decode cX12_years 80 = .ok (.irem, 1) := by decide +kernel
theorem dX12_years_81 : decode cX12_years 81 = .ok (.iconst 4, 1) := by decide +kernel
theorem dX12_years_82 : decode cX12_years 82 = .ok (.idiv, 1) := by decide +kernel
theorem dX12_years_83 : decode cX12_years 83 = .ok (.bipush 10, 2) := by decide +kernel
theorem dX12_years_85 : decode cX12_years 85 = .ok (.imul, 1) := by decide +kernel
theorem dX12_years_86 : decode cX12_years 86 = .ok (.iadd, 1) := by decide +kernel
theorem dX12_years_87 : decode cX12_years 87 = .ok (.iload 5, 2) := by decide +kernel
theorem dX12_years_89 : decode cX12_years 89 = .ok (.iconst 4, 1) := by decide +kernel
theorem dX12_years_90 : decode cX12_years 90 = .ok (.irem, 1) := by decide +kernel
theorem dX12_years_91 : decode cX12_years 91 = .ok (.iadd, 1) := by decide +kernel
theorem dX12_years_92 : decode cX12_years 92 = .ok (.istore 6, 2) := by decide +kernel
theorem dX12_years_94 : decode cX12_years 94 = .ok (.aload_n 0, 1) := by decide +kernel
theorem dX12_years_95 : decode cX12_years 95 = .ok (.iload 6, 2) := by decide +kernel
theorem dX12_years_97 : decode cX12_years 97 = .ok (.invokevirtual 174, 3) := by decide +kernel
theorem dX12_years_100 : decode cX12_years 100 = .ok (.ifCond .eq 7, 3) := by decide +kernel
theorem dX12_years_103 : decode cX12_years 103 = .ok (.iload_n 2, 1) := by decide +kernel
theorem dX12_years_104 : decode cX12_years 104 = .ok (.goto 10, 3) := by decide +kernel
theorem dX12_years_107 : decode cX12_years 107 = .ok (.aload_n 0, 1) := by decide +kernel
theorem dX12_years_108 : decode cX12_years 108 = .ok (.iload_n 2, 1) := by decide +kernel
theorem dX12_years_109 : decode cX12_years 109 = .ok (.iload 6, 2) := by decide +kernel
theorem dX12_years_111 : decode cX12_years 111 = .ok (.invokevirtual 177, 3) := by decide +kernel
theorem dX12_years_114 : decode cX12_years 114 = .ok (.istore_n 2, 1) := by decide +kernel
theorem dX12_years_115 : decode cX12_years 115 = .ok (.iload_n 3, 1) := by decide +kernel
theorem dX12_years_116 : decode cX12_years 116 = .ok (.aload_n 0, 1) := by decide +kernel
theorem dX12_years_117 : decode cX12_years 117 = .ok (.iload_n 2, 1) := by decide +kernel
theorem dX12_years_118 : decode cX12_years 118 = .ok (.invokevirtual 139, 3) := by decide +kernel
theorem dX12_years_121 : decode cX12_years 121 = .ok (.iadd, 1) := by decide +kernel
theorem dX12_years_122 : decode cX12_years 122 = .ok (.istore_n 3, 1) := by decide +kernel
theorem dX12_years_123 : decode cX12_years 123 = .ok (.iinc 4 1, 3) := by decide +kernel
theorem dX12_years_126 : decode cX12_years 126 = .ok (.goto (-94), 3) := by decide +kernel
theorem dX12_years_129 : decode cX12_years 129 = .ok (.iload_n 3, 1) := by decide +kernel
theorem dX12_years_130 : decode cX12_years 130 = .ok (.ireturn, 1) := by decide +kernel
theorem dX12_keep_0 : decode cX12_keep 0 = .ok (.aload_n 0, 1) := by decide +kernel
theorem dX12_keep_1 : decode cX12_keep 1 = .ok (.iconst 0, 1) := by decide +kernel
theorem dX12_keep_2 : decode cX12_keep 2 = .ok (.putfield 57, 3) := by decide +kernel
theorem dX12_keep_5 : decode cX12_keep 5 = .ok (.iload_n 1, 1) := by decide +kernel
theorem dX12_keep_6 : decode cX12_keep 6 = .ok (.i2l, 1) := by decide +kernel
theorem dX12_keep_7 : decode cX12_keep 7 = .ok (.lconst 0, 1) := by decide +kernel
theorem dX12_keep_8 : decode cX12_keep 8 = .ok (.lconst 1, 1) := by decide +kernel
theorem dX12_keep_9 : decode cX12_keep 9 = .ok (.invokestatic 65, 3) := by decide +kernel
theorem dX12_keep_12 : decode cX12_keep 12 = .ok (.ifCond .ne 5, 3) := by decide +kernel
theorem dX12_keep_15 : decode cX12_keep 15 = .ok (.iconst (-1), 1) := by decide +kernel
theorem dX12_keep_16 : decode cX12_keep 16 = .ok (.ireturn, 1) := by decide +kernel
theorem dX12_keep_17 : decode cX12_keep 17 = .ok (.aload_n 0, 1) := by decide +kernel
theorem dX12_keep_18 : decode cX12_keep 18 = .ok (.getfield 44, 3) := by decide +kernel
theorem dX12_keep_21 : decode cX12_keep 21 = .ok (.iload_n 1, 1) := by decide +kernel
theorem dX12_keep_22 : decode cX12_keep 22 = .ok (.iconst 1, 1) := by decide +kernel
theorem dX12_keep_23 : decode cX12_keep 23 = .ok (.bastore, 1) := by decide +kernel
theorem dX12_keep_24 : decode cX12_keep 24 = .ok (.iconst 0, 1) := by decide +kernel
theorem dX12_keep_25 : decode cX12_keep 25 = .ok (.istore_n 2, 1) := by decide +kernel
theorem dX12_keep_26 : decode cX12_keep 26 = .ok (.iload_n 2, 1) := by decide +kernel
theorem dX12_keep_27 : decode cX12_keep 27 = .ok (.bipush 9, 2) := by decide +kernel
theorem dX12_keep_29 : decode cX12_keep 29 = .ok (.if_icmp .ge 26, 3) := by decide +kernel
theorem dX12_keep_32 : decode cX12_keep 32 = .ok (.aload_n 0, 1) := by decide +kernel
theorem dX12_keep_33 : decode cX12_keep 33 = .ok (.getfield 41, 3) := by decide +kernel
theorem dX12_keep_36 : decode cX12_keep 36 = .ok (.bipush 9, 2) := by decide +kernel
theorem dX12_keep_38 : decode cX12_keep 38 = .ok (.iload_n 1, 1) := by decide +kernel
theorem dX12_keep_39 : decode cX12_keep 39 = .ok (.imul, 1) := by decide +kernel
theorem dX12_keep_40 : decode cX12_keep 40 = .ok (.iload_n 2, 1) := by decide +kernel
theorem dX12_keep_41 : decode cX12_keep 41 = .ok (.iadd, 1) := by decide +kernel
theorem dX12_keep_42 : decode cX12_keep 42 = .ok (.aload_n 0, 1) := by decide +kernel
theorem dX12_keep_43 : decode cX12_keep 43 = .ok (.getfield 32, 3) := by decide +kernel
theorem dX12_keep_46 : decode cX12_keep 46 = .ok (.iload_n 2, 1) := by decide +kernel
theorem dX12_keep_47 : decode cX12_keep 47 = .ok (.iaload, 1) := by decide +kernel
theorem dX12_keep_48 : decode cX12_keep 48 = .ok (.iastore, 1) := by decide +kernel
theorem dX12_keep_49 : decode cX12_keep 49 = .ok (.iinc 2 1, 3) := by decide +kernel
theorem dX12_keep_52 : decode cX12_keep 52 = .ok (.goto (-26), 3) := by decide +kernel
theorem dX12_keep_55 : decode cX12_keep 55 = .ok (.aload_n 0, 1) := by decide +kernel
theorem dX12_keep_56 : decode cX12_keep 56 = .ok (.getfield 32, 3) := by decide +kernel
theorem dX12_keep_59 : decode cX12_keep 59 = .ok (.iconst 1, 1) := by decide +kernel
theorem dX12_keep_60 : decode cX12_keep 60 = .ok (.iaload, 1) := by decide +kernel
theorem dX12_keep_61 : decode cX12_keep 61 = .ok (.ireturn, 1) := by decide +kernel
theorem dX12_again_0 : decode cX12_again 0 = .ok (.aload_n 0, 1) := by decide +kernel
theorem dX12_again_1 : decode cX12_again 1 = .ok (.iconst 0, 1) := by decide +kernel
theorem dX12_again_2 : decode cX12_again 2 = .ok (.putfield 57, 3) := by decide +kernel
theorem dX12_again_5 : decode cX12_again 5 = .ok (.iload_n 1, 1) := by decide +kernel
theorem dX12_again_6 : decode cX12_again 6 = .ok (.i2l, 1) := by decide +kernel
theorem dX12_again_7 : decode cX12_again 7 = .ok (.lconst 0, 1) := by decide +kernel
theorem dX12_again_8 : decode cX12_again 8 = .ok (.lconst 1, 1) := by decide +kernel
theorem dX12_again_9 : decode cX12_again 9 = .ok (.invokestatic 65, 3) := by decide +kernel
theorem dX12_again_12 : decode cX12_again 12 = .ok (.ifCond .ne 5, 3) := by decide +kernel
theorem dX12_again_15 : decode cX12_again 15 = .ok (.iconst (-1), 1) := by decide +kernel
theorem dX12_again_16 : decode cX12_again 16 = .ok (.ireturn, 1) := by decide +kernel
theorem dX12_again_17 : decode cX12_again 17 = .ok (.aload_n 0, 1) := by decide +kernel
theorem dX12_again_18 : decode cX12_again 18 = .ok (.getfield 44, 3) := by decide +kernel
theorem dX12_again_21 : decode cX12_again 21 = .ok (.iload_n 1, 1) := by decide +kernel
theorem dX12_again_22 : decode cX12_again 22 = .ok (.baload, 1) := by decide +kernel
theorem dX12_again_23 : decode cX12_again 23 = .ok (.ifCond .ne 6, 3) := by decide +kernel
theorem dX12_again_26 : decode cX12_again 26 = .ok (.bipush (-3), 2) := by decide +kernel
theorem dX12_again_28 : decode cX12_again 28 = .ok (.ireturn, 1) := by decide +kernel
theorem dX12_again_29 : decode cX12_again 29 = .ok (.iconst 0, 1) := by decide +kernel
theorem dX12_again_30 : decode cX12_again 30 = .ok (.istore_n 2, 1) := by decide +kernel
theorem dX12_again_31 : decode cX12_again 31 = .ok (.iload_n 2, 1) := by decide +kernel
theorem dX12_again_32 : decode cX12_again 32 = .ok (.bipush 9, 2) := by decide +kernel
theorem dX12_again_34 : decode cX12_again 34 = .ok (.if_icmp .ge 26, 3) := by decide +kernel
theorem dX12_again_37 : decode cX12_again 37 = .ok (.aload_n 0, 1) := by decide +kernel
theorem dX12_again_38 : decode cX12_again 38 = .ok (.getfield 32, 3) := by decide +kernel
theorem dX12_again_41 : decode cX12_again 41 = .ok (.iload_n 2, 1) := by decide +kernel
theorem dX12_again_42 : decode cX12_again 42 = .ok (.aload_n 0, 1) := by decide +kernel
theorem dX12_again_43 : decode cX12_again 43 = .ok (.getfield 41, 3) := by decide +kernel
theorem dX12_again_46 : decode cX12_again 46 = .ok (.bipush 9, 2) := by decide +kernel
theorem dX12_again_48 : decode cX12_again 48 = .ok (.iload_n 1, 1) := by decide +kernel
theorem dX12_again_49 : decode cX12_again 49 = .ok (.imul, 1) := by decide +kernel
theorem dX12_again_50 : decode cX12_again 50 = .ok (.iload_n 2, 1) := by decide +kernel
theorem dX12_again_51 : decode cX12_again 51 = .ok (.iadd, 1) := by decide +kernel
theorem dX12_again_52 : decode cX12_again 52 = .ok (.iaload, 1) := by decide +kernel
theorem dX12_again_53 : decode cX12_again 53 = .ok (.iastore, 1) := by decide +kernel
theorem dX12_again_54 : decode cX12_again 54 = .ok (.iinc 2 1, 3) := by decide +kernel
theorem dX12_again_57 : decode cX12_again 57 = .ok (.goto (-26), 3) := by decide +kernel
theorem dX12_again_60 : decode cX12_again 60 = .ok (.aload_n 0, 1) := by decide +kernel
theorem dX12_again_61 : decode cX12_again 61 = .ok (.iconst 0, 1) := by decide +kernel
theorem dX12_again_62 : decode cX12_again 62 = .ok (.putfield 118, 3) := by decide +kernel
theorem dX12_again_65 : decode cX12_again 65 = .ok (.aload_n 0, 1) := by decide +kernel
theorem dX12_again_66 : decode cX12_again 66 = .ok (.getfield 32, 3) := by decide +kernel
theorem dX12_again_69 : decode cX12_again 69 = .ok (.iconst 1, 1) := by decide +kernel
theorem dX12_again_70 : decode cX12_again 70 = .ok (.iaload, 1) := by decide +kernel
theorem dX12_again_71 : decode cX12_again 71 = .ok (.ireturn, 1) := by decide +kernel
end
section

/-! ===== the abstract machine: a fixed shape of cells, its ints and longs as two functions; X: the method comes to its end with a given answer and given memory ===== -/
def xg : List Cond := lw_tbl.filter goodWord
def xnb : Cond → Bool
  | .fieldLinkNest .. => true
  | .methodLinkNest .. => true
  | _ => false
def xn : List Cond := lw_tbl.filter xnb
theorem xg_in {w : Cond} (i : Nat) (h : lw_tbl[i]? = some w) (hg : goodWord w = true) : w ∈ xg := List.mem_filter.mpr ⟨List.mem_of_getElem? h, hg⟩
theorem xn_in {w : Cond} (i : Nat) (h : lw_tbl[i]? = some w) (hg : xnb w = true) : w ∈ xn := List.mem_filter.mpr ⟨List.mem_of_getElem? h, hg⟩
theorem xg_good {w : Cond} (h : w ∈ xg) : (w.onTables && w.keeps) = true ∨ ∃ ty, w = .arrayClass ty := good_of_word (List.mem_filter.mp h).2
theorem xg_tbl {w : Cond} (h : w ∈ xg) : w ∈ lw_tbl := (List.mem_filter.mp h).1
theorem xg_goodIn {b : Cond} (hb : b ∈ xg) : GoodIn xg (b :: xg) := fun w hw => by
  rcases List.mem_cons.mp hw with rfl | h
  · exact ⟨hb, xg_good hb⟩
  · exact ⟨h, xg_good h⟩
abbrev xM : Type := Nat → Nat → Int32
abbrev xN : Type := Nat → Nat → Int64
def xu {α : Type} (f : Nat → Nat → α) (i k : Nat) (v : α) : Nat → Nat → α := fun a b => if a = i ∧ b = k then v else f a b
def xrow {α : Type} (f : Nat → Nat → α) (i : Nat) (h : Nat → α) : Nat → Nat → α := fun a => if a = i then h else f a
theorem xu_ne {α : Type} {f : Nat → Nat → α} {i k j : Nat} {v : α} (h : j ≠ i) : xu f i k v j = f j := by funext b; simp [xu, h]
theorem xrow_ne {α : Type} {f : Nat → Nat → α} {i j : Nat} {r : Nat → α} (h : j ≠ i) : xrow f i r j = f j := by simp [xrow, h]
theorem xrow_eq {α : Type} {f : Nat → Nat → α} {i : Nat} {r : Nat → α} : xrow f i r i = r := by simp [xrow]
theorem xu_row {f : xM} {i k : Nat} {v : Int32} : xu f i k v i = upd (f i) k v := by funext b; simp [xu, upd]
abbrev xSc : Type := (Bool × Nat) ⊕ (Nat × List (Nat ⊕ Bool))
abbrev xS : Type := List xSc
def xv (ad : Nat → Nat) (f : xM) (g : xN) (i k : Nat) : Nat ⊕ Bool → Value
  | .inl j => .ref (ad j)
  | .inr false => .int (f i k)
  | .inr true => .long (g i k)
def xe (ct : Bool → ClassId) (ad : Nat → Nat) (f : xM) (g : xN) (i : Nat) : xSc → va_E
  | .inl q => .inl (ct q.1, q.2, .inl (f i))
  | .inr q => .inr (q.1, q.2.mapIdx (fun k t => xv ad f g i k t))
def xw (ct : Bool → ClassId) (ad : Nat → Nat) (sh : xS) (f : xM) (g : xN) : va_W := sh.mapIdx (fun i c => (ad i, xe ct ad f g i c))
section XW
variable {ct : Bool → ClassId} {ad : Nat → Nat} {sh : xS} {f f' : xM} {g g' : xN} {i k ci n : Nat} {sl : List (Nat ⊕ Bool)} {z : Bool}
theorem xw_at {c : xSc} (h : sh[i]? = some c) : (xw ct ad sh f g)[i]? = some (ad i, xe ct ad f g i c) := by simp [xw, List.getElem?_mapIdx, h]
theorem xw_len : (xw ct ad sh f g).length = sh.length := by simp [xw]
theorem xw_of {q : Nat × va_E} (h : (xw ct ad sh f g)[i]? = some q) : ∃ c, sh[i]? = some c ∧ q = (ad i, xe ct ad f g i c) := by
  simp only [xw, List.getElem?_mapIdx] at h
  cases hc : sh[i]? with
  | none => rw [hc] at h; cases h
  | some c => rw [hc] at h; exact ⟨c, rfl, (Option.some.inj h).symm⟩
theorem xv_congr {j k : Nat} {t : Nat ⊕ Bool} (hf : f j k = f' j k) (hg : g j k = g' j k) : xv ad f g j k t = xv ad f' g' j k t := by
  rcases t with _ | b
  · rfl
  · cases b
    · simp only [xv, hf]
    · simp only [xv, hg]
theorem xe_congr {j : Nat} {c : xSc} (hf : f j = f' j) (hg : g j = g' j) : xe ct ad f g j c = xe ct ad f' g' j c := by
  rcases c with q | q
  · simp only [xe, hf]
  · simp only [xe]
    have : (fun k t => xv ad f g j k t) = (fun k t => xv ad f' g' j k t) := by
      funext k t
      exact xv_congr (by rw [hf]) (by rw [hg])
    rw [this]
theorem xw_set {e : va_E} (c : xSc) (h : sh[i]? = some c) (he : e = xe ct ad f' g' i c) (hf : ∀ j, j ≠ i → f' j = f j) (hg : ∀ j, j ≠ i → g' j = g j) : (xw ct ad sh f g).set i (ad i, e) = xw ct ad sh f' g' := by
  apply List.ext_getElem?
  intro j
  have hl : i < sh.length := (List.getElem?_eq_some_iff.mp h).1
  by_cases hj : i = j
  · subst hj
    rw [List.getElem?_set_self (by rw [xw_len]; exact hl), xw_at h, he]
  · rw [List.getElem?_set_ne hj]
    simp only [xw, List.getElem?_mapIdx]
    cases hc : sh[j]? with
    | none => rfl
    | some c2 => simp only [Option.map_some]; rw [xe_congr (hf j (Ne.symm hj)) (hg j (Ne.symm hj))]
theorem xw_setI {v : Int32} (h : sh[i]? = some (.inr (ci, sl))) (hk : sl[k]? = some (.inr false)) : (xw ct ad sh f g).set i (ad i, .inr (ci, (sl.mapIdx (fun k t => xv ad f g i k t)).set k (.int v))) = xw ct ad sh (xu f i k v) g := by
  refine xw_set _ h ?_ (fun j hj => xu_ne hj) (fun j _ => rfl)
  have hl : k < sl.length := (List.getElem?_eq_some_iff.mp hk).1
  simp only [xe]
  congr 2
  apply List.ext_getElem?
  intro j
  by_cases hj : k = j
  · subst hj
    rw [List.getElem?_set_self (by simpa using hl)]
    simp [List.getElem?_mapIdx, hk, xv, xu]
  · rw [List.getElem?_set_ne hj]
    simp only [List.getElem?_mapIdx]
    cases hc : sl[j]? with
    | none => rfl
    | some t => simp only [Option.map_some]; rw [xv_congr (f' := xu f i k v) (g' := g) (by simp [xu, Ne.symm hj]) rfl]
theorem xw_setL {v : Int64} (h : sh[i]? = some (.inr (ci, sl))) (hk : sl[k]? = some (.inr true)) : (xw ct ad sh f g).set i (ad i, .inr (ci, (sl.mapIdx (fun k t => xv ad f g i k t)).set k (.long v))) = xw ct ad sh f (xu g i k v) := by
  refine xw_set _ h ?_ (fun j _ => rfl) (fun j hj => xu_ne hj)
  have hl : k < sl.length := (List.getElem?_eq_some_iff.mp hk).1
  simp only [xe]
  congr 2
  apply List.ext_getElem?
  intro j
  by_cases hj : k = j
  · subst hj
    rw [List.getElem?_set_self (by simpa using hl)]
    simp [List.getElem?_mapIdx, hk, xv, xu]
  · rw [List.getElem?_set_ne hj]
    simp only [List.getElem?_mapIdx]
    cases hc : sl[j]? with
    | none => rfl
    | some t => simp only [Option.map_some]; rw [xv_congr (f' := f) (g' := xu g i k v) rfl (by simp [xu, Ne.symm hj])]
theorem xw_setA {r : Nat → Int32} (h : sh[i]? = some (.inl (z, n))) : (xw ct ad sh f g).set i (ad i, .inl (ct z, n, .inl r)) = xw ct ad sh (xrow f i r) g :=
  xw_set _ h (by simp only [xe, xrow_eq]) (fun j hj => xrow_ne hj) (fun j _ => rfl)
theorem xu_xrow {v : Int32} : xrow f i (upd (f i) k v) = xu f i k v := by
  funext a
  by_cases ha : a = i
  · subst ha; rw [xrow_eq, xu_row]
  · rw [xrow_ne ha, xu_ne ha]
def xA (ad : Nat → Nat) (n : Nat) : Nat → Prop := fun q => ∃ i, i < n ∧ ad i = q
def xI (ad : Nat → Nat) (n : Nat) : Prop := ∀ i j, i < n → j < n → ad i = ad j → i = j
theorem xw_D (h : xI ad sh.length) : va_D (xA ad sh.length) (xw ct ad sh f g) := by
  refine ⟨fun i j p q hp hq hpq => ?_, fun k q hq => ?_⟩
  · obtain ⟨c1, h1, rfl⟩ := xw_of hp
    obtain ⟨c2, h2, rfl⟩ := xw_of hq
    exact h i j (List.getElem?_eq_some_iff.mp h1).1 (List.getElem?_eq_some_iff.mp h2).1 hpq
  · obtain ⟨c1, h1, rfl⟩ := xw_of hq
    exact ⟨k, (List.getElem?_eq_some_iff.mp h1).1, rfl⟩
end XW
/-! values and locals -/
def xt (ad : Nat → Nat) : Value → Value
  | .ref i => .ref (ad i)
  | v => v
theorem xt_cat (ad : Nat → Nat) (v : Value) : (xt ad v).category = v.category := by cases v <;> rfl
def xl (ad : Nat → Nat) (ls : Array Slot) (nL : Nat) (L : List (Option Value)) : Prop := ls.size = nL ∧ lv_wf ls ∧ ∀ (i : Nat) (v : Value), L[i]? = some (some v) → ls[i]? = some (.val (xt ad v))
def xal (ad : Nat → Nat) : Nat → List (Option Value) → List (Nat × Value)
  | _, [] => []
  | i, none :: t => xal ad (i + 1) t
  | i, some v :: t => (i, xt ad v) :: xal ad (i + 1) t
theorem xal_mem {ad : Nat → Nat} {L : List (Option Value)} : ∀ {i : Nat} {q : Nat × Value}, q ∈ xal ad i L ↔ ∃ k v, L[k]? = some (some v) ∧ q = (i + k, xt ad v) := by
  induction L with
  | nil => intro i q; simp [xal]
  | cons o t ih =>
    intro i q
    have step : (∃ k v, t[k]? = some (some v) ∧ q = (i + 1 + k, xt ad v)) ↔ ∃ k v, 0 < k ∧ (o :: t)[k]? = some (some v) ∧ q = (i + k, xt ad v) := by
      constructor
      · rintro ⟨k, v, h1, h2⟩
        exact ⟨k + 1, v, by omega, by simpa using h1, by rw [h2]; congr 1; omega⟩
      · rintro ⟨k, v, h0, h1, h2⟩
        obtain ⟨k, rfl⟩ : ∃ j, k = j + 1 := ⟨k - 1, by omega⟩
        exact ⟨k, v, by simpa using h1, by rw [h2]; congr 1; omega⟩
    cases o with
    | none =>
      simp only [xal]
      rw [ih, step]
      constructor
      · rintro ⟨k, v, h0, h1, h2⟩; exact ⟨k, v, h1, h2⟩
      · rintro ⟨k, v, h1, h2⟩
        cases k with
        | zero => simp at h1
        | succ k => exact ⟨k + 1, v, by omega, h1, h2⟩
    | some u =>
      simp only [xal, List.mem_cons]
      rw [ih, step]
      constructor
      · rintro (h | ⟨k, v, h0, h1, h2⟩)
        · exact ⟨0, u, rfl, by simpa using h⟩
        · exact ⟨k, v, h1, h2⟩
      · rintro ⟨k, v, h1, h2⟩
        cases k with
        | zero => left; simp at h1; rw [h2, h1]; rfl
        | succ k => right; exact ⟨k + 1, v, by omega, h1, h2⟩
theorem xl_has {ad : Nat → Nat} {ls : Array Slot} {nL : Nat} {L : List (Option Value)} (h : xl ad ls nL L) : lv_has ls nL (xal ad 0 L) := by
  refine ⟨h.1, h.2.1, fun q hq => ?_⟩
  obtain ⟨k, v, h1, rfl⟩ := xal_mem.mp hq
  simpa using h.2.2 k v h1
def xkl : Option Value → Option Value
  | some (.long _) => none
  | some (.double _) => none
  | o => o
def xst1 : List (Option Value) → Nat → Value → List (Option Value)
  | [], _, _ => []
  | _ :: t, 0, v => some v :: t
  | o :: t, i + 1, v => (if i = 0 then xkl o else o) :: xst1 t i v
def xst2 : List (Option Value) → Nat → Value → List (Option Value)
  | [], _, _ => []
  | [_], 0, v => [some v]
  | _ :: _ :: t, 0, v => some v :: none :: t
  | o :: t, i + 1, v => (if i = 0 then xkl o else o) :: xst2 t i v
theorem xkl_some {o : Option Value} {u : Value} (h : xkl o = some u) : o = some u ∧ ¬ u.category = 2 := by
  cases o with
  | none => simp [xkl] at h
  | some v => cases v <;> simp [xkl] at h <;> (subst h; simp [Value.category])
theorem xst1_at {v u : Value} : ∀ {L : List (Option Value)} {i j : Nat}, (xst1 L i v)[j]? = some (some u) → (j = i ∧ u = v) ∨ (j ≠ i ∧ L[j]? = some (some u) ∧ ¬ (j + 1 = i ∧ u.category = 2)) := by
  intro L
  induction L with
  | nil => intro i j h; simp [xst1] at h
  | cons o t ih =>
    intro i j h
    cases i with
    | zero =>
      cases j with
      | zero => left; simp [xst1] at h; exact ⟨rfl, h.symm⟩
      | succ j => right; simp [xst1] at h; exact ⟨by omega, by simpa using h, by omega⟩
    | succ i =>
      cases j with
      | zero =>
        right
        simp only [xst1, List.getElem?_cons_zero, Option.some.injEq] at h
        by_cases hi : i = 0
        · rw [if_pos hi] at h
          obtain ⟨h1, h2⟩ := xkl_some h
          exact ⟨by omega, by simp [h1], fun q => h2 q.2⟩
        · rw [if_neg hi] at h
          exact ⟨by omega, by simp [h], fun q => hi (by omega)⟩
      | succ j =>
        simp only [xst1, List.getElem?_cons_succ] at h
        rcases ih h with ⟨h1, h2⟩ | ⟨h1, h2, h3⟩
        · left; exact ⟨by omega, h2⟩
        · right; exact ⟨by omega, by simpa using h2, fun q => h3 ⟨by omega, q.2⟩⟩
theorem xst2_at {v u : Value} : ∀ {L : List (Option Value)} {i j : Nat}, (xst2 L i v)[j]? = some (some u) → (j = i ∧ u = v) ∨ (j ≠ i ∧ j ≠ i + 1 ∧ L[j]? = some (some u) ∧ ¬ (j + 1 = i ∧ u.category = 2)) := by
  intro L
  induction L with
  | nil => intro i j h; simp [xst2] at h
  | cons o t ih =>
    intro i j h
    cases i with
    | zero =>
      cases t with
      | nil =>
        cases j with
        | zero => left; simp [xst2] at h; exact ⟨rfl, h.symm⟩
        | succ j => simp [xst2] at h
      | cons o2 t =>
        match j with
        | 0 => left; simp [xst2] at h; exact ⟨rfl, h.symm⟩
        | 1 => simp [xst2] at h
        | j + 2 => right; simp [xst2] at h; exact ⟨by omega, by omega, by simpa using h, by omega⟩
    | succ i =>
      cases j with
      | zero =>
        right
        simp only [xst2, List.getElem?_cons_zero, Option.some.injEq] at h
        by_cases hi : i = 0
        · rw [if_pos hi] at h
          obtain ⟨h1, h2⟩ := xkl_some h
          exact ⟨by omega, by omega, by simp [h1], fun q => h2 q.2⟩
        · rw [if_neg hi] at h
          exact ⟨by omega, by omega, by simp [h], fun q => hi (by omega)⟩
      | succ j =>
        simp only [xst2, List.getElem?_cons_succ] at h
        rcases ih h with ⟨h1, h2⟩ | ⟨h1, h2, h3, h4⟩
        · left; exact ⟨by omega, h2⟩
        · right; exact ⟨by omega, by omega, by simpa using h3, fun q => h4 ⟨by omega, q.2⟩⟩
theorem xl_st1 {ad : Nat → Nat} {ls' : Array Slot} {nL i : Nat} {L : List (Option Value)} {v v' : Value} (hv : v' = xt ad v) (h : lv_has ls' nL ((i, v') :: (xal ad 0 L).filter (fun q => !(q.1 == i) && !(q.1 + 1 == i && q.2.category == 2)))) : xl ad ls' nL (xst1 L i v) := by
  refine ⟨h.1, h.2.1, fun j u hj => ?_⟩
  rcases xst1_at hj with ⟨rfl, rfl⟩ | ⟨h1, h2, h3⟩
  · rw [← hv]; exact h.2.2 (j, v') (List.mem_cons_self)
  · refine h.2.2 (j, xt ad u) (List.mem_cons_of_mem _ (List.mem_filter.mpr ⟨xal_mem.mpr ⟨j, u, h2, by simp⟩, ?_⟩))
    simp only [Bool.and_eq_true, Bool.not_eq_true', beq_eq_false_iff_ne, ne_eq, Bool.and_eq_false_iff, xt_cat]
    refine ⟨h1, ?_⟩
    by_cases hq : j + 1 = i
    · right; exact fun q => h3 ⟨hq, q⟩
    · left; exact hq
theorem xl_st2 {ad : Nat → Nat} {ls' : Array Slot} {nL i : Nat} {L : List (Option Value)} {v v' : Value} (hv : v' = xt ad v) (h : lv_has ls' nL ((i, v') :: (xal ad 0 L).filter (fun q => !(q.1 == i) && (!(q.1 == i + 1) && !(q.1 + 1 == i && q.2.category == 2))))) : xl ad ls' nL (xst2 L i v) := by
  refine ⟨h.1, h.2.1, fun j u hj => ?_⟩
  rcases xst2_at hj with ⟨rfl, rfl⟩ | ⟨h1, h2, h3, h4⟩
  · rw [← hv]; exact h.2.2 (j, v') (List.mem_cons_self)
  · refine h.2.2 (j, xt ad u) (List.mem_cons_of_mem _ (List.mem_filter.mpr ⟨xal_mem.mpr ⟨j, u, h3, by simp⟩, ?_⟩))
    simp only [Bool.and_eq_true, Bool.not_eq_true', beq_eq_false_iff_ne, ne_eq, Bool.and_eq_false_iff, xt_cat]
    refine ⟨h1, h2, ?_⟩
    by_cases hq : j + 1 = i
    · right; exact fun q => h4 ⟨hq, q⟩
    · left; exact hq
/-- fewer locals known -/
def xle : List (Option Value) → List (Option Value) → Prop
  | [], _ => True
  | none :: t, [] => xle t []
  | none :: t, _ :: u => xle t u
  | some _ :: _, [] => False
  | some v :: t, o :: u => o = some v ∧ xle t u
theorem xle_at {v : Value} : ∀ {L L' : List (Option Value)} {i : Nat}, xle L' L → L'[i]? = some (some v) → L[i]? = some (some v) := by
  intro L L'
  induction L' generalizing L with
  | nil => intro i _ h; simp at h
  | cons o t ih =>
    intro i hx h
    cases o with
    | none =>
      cases L with
      | nil =>
        cases i with
        | zero => simp at h
        | succ i => have := ih (L := []) (i := i) hx (by simpa using h); simp at this
      | cons o2 u =>
        cases i with
        | zero => simp at h
        | succ i => simpa using ih (L := u) (i := i) hx (by simpa using h)
    | some w =>
      cases L with
      | nil => exact hx.elim
      | cons o2 u =>
        cases i with
        | zero => simp at h ⊢; rw [← h]; exact hx.1
        | succ i => simpa using ih (L := u) (i := i) hx.2 (by simpa using h)
theorem xl_le {ad : Nat → Nat} {ls : Array Slot} {nL : Nat} {L L' : List (Option Value)} (hx : xle L' L) (h : xl ad ls nL L) : xl ad ls nL L' := ⟨h.1, h.2.1, fun i v hi => h.2.2 i v (xle_at hx hi)⟩
def xord : Nat → Int32
  | 0 => 1
  | 1 => 1
  | 2 => 2
  | _ => 6
def xO (A : Nat → Prop) (U : State) (H : Heap) : Prop := ∃ t, va_Z "ErrataColumn$Odds" "ORDERS" "[I" (.ref t) A U H ∧ va_T .int t 4 (fun j => .int (xord j)) A U H
def xK (D : va_G) (ct : Bool → ClassId) (U : State) : Prop := va_K D vwCl [(ct false, .int), (ct true, .boolean)] U ∧ ∀ w ∈ xn, va_Nw w U
theorem xn_nest {w : Cond} (h : w ∈ xn) : xnb w = true := (List.mem_filter.mp h).2
theorem xn_tab {w : Cond} (h : w ∈ xn) : w.onTables = true := by
  have h1 := xn_nest h
  cases w <;> first | rfl | (simp [xnb] at h1)
theorem xK.moved {D : va_G} {ct : Bool → ClassId} {s U : State} (hW : s.WarmedH U.vm) (h : xK D ct s) : xK D ct U := by
  refine ⟨va_K.moved hW.alike h.1, fun w hw => ?_⟩
  have h1 := xn_nest hw
  have h2 := h.2 w hw
  cases w with
  | fieldLinkNest a i b n d hh => exact va_Nw.warmF hW h2
  | methodLinkNest a i x hh => exact va_Nw.warmM hW h2
  | _ => simp [xnb] at h1
theorem xK.calling {D : va_G} {ct : Bool → ClassId} {U : State} {g : JFrame} {mk : MethodId} {a : Array Value} (h : xK D ct U) : xK D ct (U.calling g mk a) :=
  ⟨va_K.moved (u := U) (U := U.calling g mk a) (Vm.Alike.refl U.vm) h.1, fun w hw => va_Nw.same (xn_tab hw) (u := U) (U := U.calling g mk a) rfl (h.2 w hw)⟩
/-- a method: name, code, locals, answer's type, the shape of the world -/
abbrev xm : Type := MethodName × ByteArray × Nat × Option FieldType × xS
def xr (d : Nat) : Room := { frames := d, cells := 0, slots := 0, locals := 64 * d }
abbrev xR : Type := Option Value × xM × xN
def xQ (D : va_G) (ct : Bool → ClassId) (ad : Nat → Nat) (sh : xS) (R : xR) : Array Value → State → Outcome → State → Prop := fun _ st oc t =>
  (oc = .returned (R.1.map (xt ad)) ∧ va_P D vwCl (xw ct ad sh R.2.1 R.2.2) t.heap) ∧ va_F (xA ad sh.length) st t
def xC (μ : xm) (p : Program) (s : State) (m : MethodId) (args : Array Value) (meth : Method) (c : Code) (D : va_G) (ct : Bool → ClassId) (ad : Nat → Nat) : Prop :=
  p.tables.exec = Jvm.exec ∧ c.code = μ.2.1 ∧ c.maxLocals = μ.2.2.1 ∧ meth.sig.returnType = μ.2.2.2.1 ∧ meth.locks = false ∧ s.vm.findClass μ.1.cls = some m.cls ∧ (∀ w ∈ xg, w.before args s = true) ∧ xK D ct s ∧ xI ad μ.2.2.2.2.length ∧ xO (xA ad μ.2.2.2.2.length) s s.heap
def X (μ : xm) (d : Nat) (R : xR) (pc : Nat) (L : List (Option Value)) (st : List Value) (f : xM) (g : xN) : Prop :=
  ∀ (p : Program) (l : Launch) (e : Env) (s : State) (m : MethodId) (args : Array Value) (below : List Frame) (meth : Method) (c : Code) (D : va_G) (ct : Bool → ClassId) (ad : Nat → Nat) (H : Heap) (locs : List Loc) (ls : Array Slot),
    xC μ p s m args meth c D ct ad → va_P D vwCl (xw ct ad μ.2.2.2.2 f g) H → va_S (xA ad μ.2.2.2.2.length) s.heap H locs → xl ad ls μ.2.2.1 L →
    W p l e (xr d) s m args below meth c H locs 0 0 (MQ below (xQ D ct ad μ.2.2.2.2 R) args s 0 0 (xA ad μ.2.2.2.2.length)) (F0 m pc ls (st.map (xt ad)))
section XR
variable {μ : xm} {d : Nat} {R : xR} {pc : Nat} {L : List (Option Value)} {st : List Value} {f : xM} {g : xN}
theorem X.weaken {L' : List (Option Value)} (hx : xle L' L) (k : X μ d R pc L' st f g) : X μ d R pc L st f g := by
  intro p l e s m args below meth c D ct ad H locs ls hC hP hS hl
  exact k p l e s m args below meth c D ct ad H locs ls hC hP hS (xl_le hx hl)

theorem X.iconst {n : Int} {v : Int32} (hd : decode μ.2.1 pc = .ok (.iconst n, 1)) (hv : Int32.ofInt n = v) (k : X μ d R (pc + 1) L (.int v :: st) f g) : X μ d R pc L st f g := by
  intro p l e s m args below meth c D ct ad H locs ls hC hP hS hl
  obtain ⟨hx, hb, hml, hr, hlk, hown, hts, hK, hI, hO⟩ := id hC
  exact lv_iconst hx hb hd hv (k p l e s m args below meth c D ct ad H locs ls hC hP hS hl)

theorem X.bipush {n : Int} {v : Int32} (hd : decode μ.2.1 pc = .ok (.bipush n, 2)) (hv : (Int8.ofInt n).toInt32 = v) (k : X μ d R (pc + 2) L (.int v :: st) f g) : X μ d R pc L st f g := by
  intro p l e s m args below meth c D ct ad H locs ls hC hP hS hl
  obtain ⟨hx, hb, hml, hr, hlk, hown, hts, hK, hI, hO⟩ := id hC
  exact lv_bipush hx hb hd hv (k p l e s m args below meth c D ct ad H locs ls hC hP hS hl)

theorem X.sipush {n : Int} {v : Int32} (hd : decode μ.2.1 pc = .ok (.sipush n, 3)) (hv : (Int16.ofInt n).toInt32 = v) (k : X μ d R (pc + 3) L (.int v :: st) f g) : X μ d R pc L st f g := by
  intro p l e s m args below meth c D ct ad H locs ls hC hP hS hl
  obtain ⟨hx, hb, hml, hr, hlk, hown, hts, hK, hI, hO⟩ := id hC
  exact lv_sipush hx hb hd hv (k p l e s m args below meth c D ct ad H locs ls hC hP hS hl)

theorem X.lconst {n : Fin 2} {v : Int64} (hd : decode μ.2.1 pc = .ok (.lconst n, 1)) (hv : Int64.ofNat (n : Nat) = v) (k : X μ d R (pc + 1) L (.long v :: st) f g) : X μ d R pc L st f g := by
  intro p l e s m args below meth c D ct ad H locs ls hC hP hS hl
  obtain ⟨hx, hb, hml, hr, hlk, hown, hts, hK, hI, hO⟩ := id hC
  exact lv_lconst hx hb hd hv (k p l e s m args below meth c D ct ad H locs ls hC hP hS hl)

theorem X.iload_n {k0 : Fin 4} {i : Nat} {x : Int32} (hd : decode μ.2.1 pc = .ok (.iload_n k0, 1)) (hi : (k0 : Nat) = i) (hl0 : L[i]? = some (some (.int x))) (k : X μ d R (pc + 1) L (.int x :: st) f g) : X μ d R pc L st f g := by
  intro p l e s m args below meth c D ct ad H locs ls hC hP hS hl
  obtain ⟨hx, hb, hml, hr, hlk, hown, hts, hK, hI, hO⟩ := id hC
  exact lv_iload_n hx hb hd hi (hl.2.2 i _ hl0) (k p l e s m args below meth c D ct ad H locs ls hC hP hS hl)

theorem X.iload {i : Nat} {x : Int32} (hd : decode μ.2.1 pc = .ok (.iload i, 2)) (hl0 : L[i]? = some (some (.int x))) (k : X μ d R (pc + 2) L (.int x :: st) f g) : X μ d R pc L st f g := by
  intro p l e s m args below meth c D ct ad H locs ls hC hP hS hl
  obtain ⟨hx, hb, hml, hr, hlk, hown, hts, hK, hI, hO⟩ := id hC
  exact lv_iload hx hb hd (hl.2.2 i _ hl0) (k p l e s m args below meth c D ct ad H locs ls hC hP hS hl)

theorem X.lload_n {k0 : Fin 4} {i : Nat} {x : Int64} (hd : decode μ.2.1 pc = .ok (.lload_n k0, 1)) (hi : (k0 : Nat) = i) (hl0 : L[i]? = some (some (.long x))) (k : X μ d R (pc + 1) L (.long x :: st) f g) : X μ d R pc L st f g := by
  intro p l e s m args below meth c D ct ad H locs ls hC hP hS hl
  obtain ⟨hx, hb, hml, hr, hlk, hown, hts, hK, hI, hO⟩ := id hC
  exact lv_lload_n hx hb hd hi (hl.2.2 i _ hl0) (k p l e s m args below meth c D ct ad H locs ls hC hP hS hl)

theorem X.lload {i : Nat} {x : Int64} (hd : decode μ.2.1 pc = .ok (.lload i, 2)) (hl0 : L[i]? = some (some (.long x))) (k : X μ d R (pc + 2) L (.long x :: st) f g) : X μ d R pc L st f g := by
  intro p l e s m args below meth c D ct ad H locs ls hC hP hS hl
  obtain ⟨hx, hb, hml, hr, hlk, hown, hts, hK, hI, hO⟩ := id hC
  exact lv_lload hx hb hd (hl.2.2 i _ hl0) (k p l e s m args below meth c D ct ad H locs ls hC hP hS hl)

theorem X.aload_n {k0 : Fin 4} {i : Nat} {x : Nat} (hd : decode μ.2.1 pc = .ok (.aload_n k0, 1)) (hi : (k0 : Nat) = i) (hl0 : L[i]? = some (some (.ref x))) (k : X μ d R (pc + 1) L (.ref x :: st) f g) : X μ d R pc L st f g := by
  intro p l e s m args below meth c D ct ad H locs ls hC hP hS hl
  obtain ⟨hx, hb, hml, hr, hlk, hown, hts, hK, hI, hO⟩ := id hC
  exact lv_aload_n hx hb hd hi (hl.2.2 i _ hl0) (k p l e s m args below meth c D ct ad H locs ls hC hP hS hl)

theorem X.aload {i : Nat} {x : Nat} (hd : decode μ.2.1 pc = .ok (.aload i, 2)) (hl0 : L[i]? = some (some (.ref x))) (k : X μ d R (pc + 2) L (.ref x :: st) f g) : X μ d R pc L st f g := by
  intro p l e s m args below meth c D ct ad H locs ls hC hP hS hl
  obtain ⟨hx, hb, hml, hr, hlk, hown, hts, hK, hI, hO⟩ := id hC
  exact lv_aload hx hb hd (hl.2.2 i _ hl0) (k p l e s m args below meth c D ct ad H locs ls hC hP hS hl)

theorem X.istore_n {k0 : Fin 4} {i : Nat} {x : Int32} {L' : List (Option Value)} (hd : decode μ.2.1 pc = .ok (.istore_n k0, 1)) (hi : (k0 : Nat) = i) (hn : i < μ.2.2.1) (hL : xst1 L i (.int x) = L') (k : X μ d R (pc + 1) L' st f g) : X μ d R pc L (.int x :: st) f g := by
  intro p l e s m args below meth c D ct ad H locs ls hC hP hS hl
  obtain ⟨hx, hb, hml, hr, hlk, hown, hts, hK, hI, hO⟩ := id hC
  subst hL
  exact lv_istore_n hx hb hd hi (xl_has hl) hn rfl (fun ls' hl' => k p l e s m args below meth c D ct ad H locs ls' hC hP hS (xl_st1 rfl hl'))

theorem X.istore {i : Nat} {x : Int32} {L' : List (Option Value)} (hd : decode μ.2.1 pc = .ok (.istore i, 2)) (hn : i < μ.2.2.1) (hL : xst1 L i (.int x) = L') (k : X μ d R (pc + 2) L' st f g) : X μ d R pc L (.int x :: st) f g := by
  intro p l e s m args below meth c D ct ad H locs ls hC hP hS hl
  obtain ⟨hx, hb, hml, hr, hlk, hown, hts, hK, hI, hO⟩ := id hC
  subst hL
  exact lv_istore hx hb hd (xl_has hl) hn rfl (fun ls' hl' => k p l e s m args below meth c D ct ad H locs ls' hC hP hS (xl_st1 rfl hl'))

theorem X.astore_n {k0 : Fin 4} {i : Nat} {x : Nat} {L' : List (Option Value)} (hd : decode μ.2.1 pc = .ok (.astore_n k0, 1)) (hi : (k0 : Nat) = i) (hn : i < μ.2.2.1) (hL : xst1 L i (.ref x) = L') (k : X μ d R (pc + 1) L' st f g) : X μ d R pc L (.ref x :: st) f g := by
  intro p l e s m args below meth c D ct ad H locs ls hC hP hS hl
  obtain ⟨hx, hb, hml, hr, hlk, hown, hts, hK, hI, hO⟩ := id hC
  subst hL
  exact lv_astore_n hx hb hd hi (xl_has hl) hn rfl (fun ls' hl' => k p l e s m args below meth c D ct ad H locs ls' hC hP hS (xl_st1 rfl hl'))

theorem X.astore {i : Nat} {x : Nat} {L' : List (Option Value)} (hd : decode μ.2.1 pc = .ok (.astore i, 2)) (hn : i < μ.2.2.1) (hL : xst1 L i (.ref x) = L') (k : X μ d R (pc + 2) L' st f g) : X μ d R pc L (.ref x :: st) f g := by
  intro p l e s m args below meth c D ct ad H locs ls hC hP hS hl
  obtain ⟨hx, hb, hml, hr, hlk, hown, hts, hK, hI, hO⟩ := id hC
  subst hL
  exact lv_astore hx hb hd (xl_has hl) hn rfl (fun ls' hl' => k p l e s m args below meth c D ct ad H locs ls' hC hP hS (xl_st1 rfl hl'))

theorem X.lstore_n {k0 : Fin 4} {i : Nat} {x : Int64} {L' : List (Option Value)} (hd : decode μ.2.1 pc = .ok (.lstore_n k0, 1)) (hi : (k0 : Nat) = i) (hn : i + 1 < μ.2.2.1) (hL : xst2 L i (.long x) = L') (k : X μ d R (pc + 1) L' st f g) : X μ d R pc L (.long x :: st) f g := by
  intro p l e s m args below meth c D ct ad H locs ls hC hP hS hl
  obtain ⟨hx, hb, hml, hr, hlk, hown, hts, hK, hI, hO⟩ := id hC
  subst hL
  exact lv_lstore_n hx hb hd hi (xl_has hl) hn rfl (fun ls' hl' => k p l e s m args below meth c D ct ad H locs ls' hC hP hS (xl_st2 rfl hl'))

theorem X.lstore {i : Nat} {x : Int64} {L' : List (Option Value)} (hd : decode μ.2.1 pc = .ok (.lstore i, 2)) (hn : i + 1 < μ.2.2.1) (hL : xst2 L i (.long x) = L') (k : X μ d R (pc + 2) L' st f g) : X μ d R pc L (.long x :: st) f g := by
  intro p l e s m args below meth c D ct ad H locs ls hC hP hS hl
  obtain ⟨hx, hb, hml, hr, hlk, hown, hts, hK, hI, hO⟩ := id hC
  subst hL
  exact lv_lstore hx hb hd (xl_has hl) hn rfl (fun ls' hl' => k p l e s m args below meth c D ct ad H locs ls' hC hP hS (xl_st2 rfl hl'))

theorem X.iinc {i : Nat} {n : Int} {x v : Int32} {L' : List (Option Value)} (hd : decode μ.2.1 pc = .ok (.iinc i n, 3)) (hl0 : L[i]? = some (some (.int x))) (hv : x + Int32.ofInt n = v) (hn : i < μ.2.2.1) (hL : xst1 L i (.int v) = L') (k : X μ d R (pc + 3) L' st f g) : X μ d R pc L st f g := by
  intro p l e s m args below meth c D ct ad H locs ls hC hP hS hl
  obtain ⟨hx, hb, hml, hr, hlk, hown, hts, hK, hI, hO⟩ := id hC
  subst hL
  obtain ⟨kk, hkk⟩ := List.getElem?_of_mem (xal_mem.mpr ⟨i, _, hl0, rfl⟩ : (0 + i, xt ad (.int x)) ∈ xal ad 0 L)
  rw [Nat.zero_add] at hkk
  exact lv_iinc hx hb hd (xl_has hl) hkk hv hn rfl (fun ls' hl' => k p l e s m args below meth c D ct ad H locs ls' hC hP hS (xl_st1 rfl hl'))

theorem X.iadd {x y : Int32} (hd : decode μ.2.1 pc = .ok (.iadd, 1)) (k : X μ d R (pc + 1) L (.int (x + y) :: st) f g) : X μ d R pc L (.int y :: .int x :: st) f g := by
  intro p l e s m args below meth c D ct ad H locs ls hC hP hS hl
  obtain ⟨hx, hb, hml, hr, hlk, hown, hts, hK, hI, hO⟩ := id hC
  exact lv_iadd hx hb hd (k p l e s m args below meth c D ct ad H locs ls hC hP hS hl)

theorem X.isub {x y : Int32} (hd : decode μ.2.1 pc = .ok (.isub, 1)) (k : X μ d R (pc + 1) L (.int (x - y) :: st) f g) : X μ d R pc L (.int y :: .int x :: st) f g := by
  intro p l e s m args below meth c D ct ad H locs ls hC hP hS hl
  obtain ⟨hx, hb, hml, hr, hlk, hown, hts, hK, hI, hO⟩ := id hC
  exact lv_isub hx hb hd (k p l e s m args below meth c D ct ad H locs ls hC hP hS hl)

theorem X.imul {x y : Int32} (hd : decode μ.2.1 pc = .ok (.imul, 1)) (k : X μ d R (pc + 1) L (.int (x * y) :: st) f g) : X μ d R pc L (.int y :: .int x :: st) f g := by
  intro p l e s m args below meth c D ct ad H locs ls hC hP hS hl
  obtain ⟨hx, hb, hml, hr, hlk, hown, hts, hK, hI, hO⟩ := id hC
  exact lv_imul hx hb hd (k p l e s m args below meth c D ct ad H locs ls hC hP hS hl)

theorem X.iand {x y : Int32} (hd : decode μ.2.1 pc = .ok (.iand, 1)) (k : X μ d R (pc + 1) L (.int (x &&& y) :: st) f g) : X μ d R pc L (.int y :: .int x :: st) f g := by
  intro p l e s m args below meth c D ct ad H locs ls hC hP hS hl
  obtain ⟨hx, hb, hml, hr, hlk, hown, hts, hK, hI, hO⟩ := id hC
  exact lv_iand hx hb hd (k p l e s m args below meth c D ct ad H locs ls hC hP hS hl)

theorem X.ior {x y : Int32} (hd : decode μ.2.1 pc = .ok (.ior, 1)) (k : X μ d R (pc + 1) L (.int (x ||| y) :: st) f g) : X μ d R pc L (.int y :: .int x :: st) f g := by
  intro p l e s m args below meth c D ct ad H locs ls hC hP hS hl
  obtain ⟨hx, hb, hml, hr, hlk, hown, hts, hK, hI, hO⟩ := id hC
  exact lv_ior hx hb hd (k p l e s m args below meth c D ct ad H locs ls hC hP hS hl)

theorem X.ixor {x y : Int32} (hd : decode μ.2.1 pc = .ok (.ixor, 1)) (k : X μ d R (pc + 1) L (.int (x ^^^ y) :: st) f g) : X μ d R pc L (.int y :: .int x :: st) f g := by
  intro p l e s m args below meth c D ct ad H locs ls hC hP hS hl
  obtain ⟨hx, hb, hml, hr, hlk, hown, hts, hK, hI, hO⟩ := id hC
  exact lv_ixor hx hb hd (k p l e s m args below meth c D ct ad H locs ls hC hP hS hl)

theorem X.ishl {x y : Int32} (hd : decode μ.2.1 pc = .ok (.ishl, 1)) (k : X μ d R (pc + 1) L (.int (x <<< (y &&& 31)) :: st) f g) : X μ d R pc L (.int y :: .int x :: st) f g := by
  intro p l e s m args below meth c D ct ad H locs ls hC hP hS hl
  obtain ⟨hx, hb, hml, hr, hlk, hown, hts, hK, hI, hO⟩ := id hC
  exact lv_ishl hx hb hd (k p l e s m args below meth c D ct ad H locs ls hC hP hS hl)

theorem X.ishr {x y : Int32} (hd : decode μ.2.1 pc = .ok (.ishr, 1)) (k : X μ d R (pc + 1) L (.int (x >>> (y &&& 31)) :: st) f g) : X μ d R pc L (.int y :: .int x :: st) f g := by
  intro p l e s m args below meth c D ct ad H locs ls hC hP hS hl
  obtain ⟨hx, hb, hml, hr, hlk, hown, hts, hK, hI, hO⟩ := id hC
  exact lv_ishr hx hb hd (k p l e s m args below meth c D ct ad H locs ls hC hP hS hl)

theorem X.ladd {x y : Int64} (hd : decode μ.2.1 pc = .ok (.ladd, 1)) (k : X μ d R (pc + 1) L (.long (x + y) :: st) f g) : X μ d R pc L (.long y :: .long x :: st) f g := by
  intro p l e s m args below meth c D ct ad H locs ls hC hP hS hl
  obtain ⟨hx, hb, hml, hr, hlk, hown, hts, hK, hI, hO⟩ := id hC
  exact lv_ladd hx hb hd (k p l e s m args below meth c D ct ad H locs ls hC hP hS hl)

theorem X.lsub {x y : Int64} (hd : decode μ.2.1 pc = .ok (.lsub, 1)) (k : X μ d R (pc + 1) L (.long (x - y) :: st) f g) : X μ d R pc L (.long y :: .long x :: st) f g := by
  intro p l e s m args below meth c D ct ad H locs ls hC hP hS hl
  obtain ⟨hx, hb, hml, hr, hlk, hown, hts, hK, hI, hO⟩ := id hC
  exact lv_lsub hx hb hd (k p l e s m args below meth c D ct ad H locs ls hC hP hS hl)

theorem X.lmul {x y : Int64} (hd : decode μ.2.1 pc = .ok (.lmul, 1)) (k : X μ d R (pc + 1) L (.long (x * y) :: st) f g) : X μ d R pc L (.long y :: .long x :: st) f g := by
  intro p l e s m args below meth c D ct ad H locs ls hC hP hS hl
  obtain ⟨hx, hb, hml, hr, hlk, hown, hts, hK, hI, hO⟩ := id hC
  exact lv_lmul hx hb hd (k p l e s m args below meth c D ct ad H locs ls hC hP hS hl)

theorem X.land {x y : Int64} (hd : decode μ.2.1 pc = .ok (.land, 1)) (k : X μ d R (pc + 1) L (.long (x &&& y) :: st) f g) : X μ d R pc L (.long y :: .long x :: st) f g := by
  intro p l e s m args below meth c D ct ad H locs ls hC hP hS hl
  obtain ⟨hx, hb, hml, hr, hlk, hown, hts, hK, hI, hO⟩ := id hC
  exact lv_land hx hb hd (k p l e s m args below meth c D ct ad H locs ls hC hP hS hl)

theorem X.lor {x y : Int64} (hd : decode μ.2.1 pc = .ok (.lor, 1)) (k : X μ d R (pc + 1) L (.long (x ||| y) :: st) f g) : X μ d R pc L (.long y :: .long x :: st) f g := by
  intro p l e s m args below meth c D ct ad H locs ls hC hP hS hl
  obtain ⟨hx, hb, hml, hr, hlk, hown, hts, hK, hI, hO⟩ := id hC
  exact lv_lor hx hb hd (k p l e s m args below meth c D ct ad H locs ls hC hP hS hl)

theorem X.idiv {x y : Int32} (hd : decode μ.2.1 pc = .ok (.idiv, 1)) (hne : ¬ y = 0) (k : X μ d R (pc + 1) L (.int (x / y) :: st) f g) : X μ d R pc L (.int y :: .int x :: st) f g := by
  intro p l e s m args below meth c D ct ad H locs ls hC hP hS hl
  obtain ⟨hx, hb, hml, hr, hlk, hown, hts, hK, hI, hO⟩ := id hC
  exact lv_idiv hx hb hd hne (k p l e s m args below meth c D ct ad H locs ls hC hP hS hl)

theorem X.irem {x y : Int32} (hd : decode μ.2.1 pc = .ok (.irem, 1)) (hne : ¬ y = 0) (k : X μ d R (pc + 1) L (.int (x - x / y * y) :: st) f g) : X μ d R pc L (.int y :: .int x :: st) f g := by
  intro p l e s m args below meth c D ct ad H locs ls hC hP hS hl
  obtain ⟨hx, hb, hml, hr, hlk, hown, hts, hK, hI, hO⟩ := id hC
  exact lv_irem hx hb hd hne (k p l e s m args below meth c D ct ad H locs ls hC hP hS hl)

theorem X.ldiv {x y : Int64} (hd : decode μ.2.1 pc = .ok (.ldiv, 1)) (hne : ¬ y = 0) (k : X μ d R (pc + 1) L (.long (x / y) :: st) f g) : X μ d R pc L (.long y :: .long x :: st) f g := by
  intro p l e s m args below meth c D ct ad H locs ls hC hP hS hl
  obtain ⟨hx, hb, hml, hr, hlk, hown, hts, hK, hI, hO⟩ := id hC
  exact lv_ldiv hx hb hd hne (k p l e s m args below meth c D ct ad H locs ls hC hP hS hl)

theorem X.lrem {x y : Int64} (hd : decode μ.2.1 pc = .ok (.lrem, 1)) (hne : ¬ y = 0) (k : X μ d R (pc + 1) L (.long (x - x / y * y) :: st) f g) : X μ d R pc L (.long y :: .long x :: st) f g := by
  intro p l e s m args below meth c D ct ad H locs ls hC hP hS hl
  obtain ⟨hx, hb, hml, hr, hlk, hown, hts, hK, hI, hO⟩ := id hC
  exact lv_lrem hx hb hd hne (k p l e s m args below meth c D ct ad H locs ls hC hP hS hl)

theorem X.ineg {x : Int32} (hd : decode μ.2.1 pc = .ok (.ineg, 1)) (k : X μ d R (pc + 1) L (.int (-x) :: st) f g) : X μ d R pc L (.int x :: st) f g := by
  intro p l e s m args below meth c D ct ad H locs ls hC hP hS hl
  obtain ⟨hx, hb, hml, hr, hlk, hown, hts, hK, hI, hO⟩ := id hC
  exact lv_ineg hx hb hd (k p l e s m args below meth c D ct ad H locs ls hC hP hS hl)

theorem X.i2l {x : Int32} (hd : decode μ.2.1 pc = .ok (.i2l, 1)) (k : X μ d R (pc + 1) L (.long x.toInt64 :: st) f g) : X μ d R pc L (.int x :: st) f g := by
  intro p l e s m args below meth c D ct ad H locs ls hC hP hS hl
  obtain ⟨hx, hb, hml, hr, hlk, hown, hts, hK, hI, hO⟩ := id hC
  exact lv_i2l hx hb hd rfl (k p l e s m args below meth c D ct ad H locs ls hC hP hS hl)

theorem X.l2i {x : Int64} (hd : decode μ.2.1 pc = .ok (.l2i, 1)) (k : X μ d R (pc + 1) L (.int x.toInt32 :: st) f g) : X μ d R pc L (.long x :: st) f g := by
  intro p l e s m args below meth c D ct ad H locs ls hC hP hS hl
  obtain ⟨hx, hb, hml, hr, hlk, hown, hts, hK, hI, hO⟩ := id hC
  exact lv_l2i hx hb hd rfl (k p l e s m args below meth c D ct ad H locs ls hC hP hS hl)

theorem X.iushr {x y : Int32} (hd : decode μ.2.1 pc = .ok (.iushr, 1)) (k : X μ d R (pc + 1) L (.int (x.toUInt32 >>> (y.toUInt32 &&& Int32.toUInt32 31)).toInt32 :: st) f g) : X μ d R pc L (.int y :: .int x :: st) f g := by
  intro p l e s m args below meth c D ct ad H locs ls hC hP hS hl
  obtain ⟨hx, hb, hml, hr, hlk, hown, hts, hK, hI, hO⟩ := id hC
  exact lv_iushr hx hb hd rfl (k p l e s m args below meth c D ct ad H locs ls hC hP hS hl)

theorem X.lushr {x : Int64} {y : Int32} (hd : decode μ.2.1 pc = .ok (.lushr, 1)) (k : X μ d R (pc + 1) L (.long (x.toUInt64 >>> (y.toInt64.toUInt64 &&& Int64.toUInt64 63)).toInt64 :: st) f g) : X μ d R pc L (.int y :: .long x :: st) f g := by
  intro p l e s m args below meth c D ct ad H locs ls hC hP hS hl
  obtain ⟨hx, hb, hml, hr, hlk, hown, hts, hK, hI, hO⟩ := id hC
  exact lv_lushr hx hb hd rfl (k p l e s m args below meth c D ct ad H locs ls hC hP hS hl)

theorem X.lshl {x : Int64} {y : Int32} (hd : decode μ.2.1 pc = .ok (.lshl, 1)) (k : X μ d R (pc + 1) L (.long (x <<< (y.toInt64 &&& 63)) :: st) f g) : X μ d R pc L (.int y :: .long x :: st) f g := by
  intro p l e s m args below meth c D ct ad H locs ls hC hP hS hl
  obtain ⟨hx, hb, hml, hr, hlk, hown, hts, hK, hI, hO⟩ := id hC
  exact lv_lshl hx hb hd rfl (k p l e s m args below meth c D ct ad H locs ls hC hP hS hl)

theorem X.lcmp {x y : Int64} (hd : decode μ.2.1 pc = .ok (.lcmp, 1)) (k : X μ d R (pc + 1) L (.int (lg_cmp x y) :: st) f g) : X μ d R pc L (.long y :: .long x :: st) f g := by
  intro p l e s m args below meth c D ct ad H locs ls hC hP hS hl
  obtain ⟨hx, hb, hml, hr, hlk, hown, hts, hK, hI, hO⟩ := id hC
  exact W.lcmp hx hb hd (k p l e s m args below meth c D ct ad H locs ls hC hP hS hl)

theorem X.dup {v : Value} (hd : decode μ.2.1 pc = .ok (.dup, 1)) (hv : v.category = 1) (k : X μ d R (pc + 1) L (v :: v :: st) f g) : X μ d R pc L (v :: st) f g := by
  intro p l e s m args below meth c D ct ad H locs ls hC hP hS hl
  obtain ⟨hx, hb, hml, hr, hlk, hown, hts, hK, hI, hO⟩ := id hC
  exact lv_dup hx hb hd ((xt_cat ad v).trans hv) (k p l e s m args below meth c D ct ad H locs ls hC hP hS hl)

theorem X.dup2 {v u : Value} (hd : decode μ.2.1 pc = .ok (.dup2, 1)) (hv : v.category = 1) (hu : u.category = 1) (k : X μ d R (pc + 1) L (v :: u :: v :: u :: st) f g) : X μ d R pc L (v :: u :: st) f g := by
  intro p l e s m args below meth c D ct ad H locs ls hC hP hS hl
  obtain ⟨hx, hb, hml, hr, hlk, hown, hts, hK, hI, hO⟩ := id hC
  exact lv_dup2_11 hx hb hd ((xt_cat ad v).trans hv) ((xt_cat ad u).trans hu) (k p l e s m args below meth c D ct ad H locs ls hC hP hS hl)

theorem X.pop {v : Value} (hd : decode μ.2.1 pc = .ok (.pop, 1)) (hv : v.category = 1) (k : X μ d R (pc + 1) L st f g) : X μ d R pc L (v :: st) f g := by
  intro p l e s m args below meth c D ct ad H locs ls hC hP hS hl
  obtain ⟨hx, hb, hml, hr, hlk, hown, hts, hK, hI, hO⟩ := id hC
  exact lv_pop hx hb hd ((xt_cat ad v).trans hv) (k p l e s m args below meth c D ct ad H locs ls hC hP hS hl)

theorem X.goto {off : Int} {tgt : Nat} (hd : decode μ.2.1 pc = .ok (.goto off, 3)) (ht : (pc : Int) + off = (tgt : Int)) (k : X μ d R tgt L st f g) : X μ d R pc L st f g := by
  intro p l e s m args below meth c D ct ad H locs ls hC hP hS hl
  obtain ⟨hx, hb, hml, hr, hlk, hown, hts, hK, hI, hO⟩ := id hC
  exact lv_goto hx hb hd ht (k p l e s m args below meth c D ct ad H locs ls hC hP hS hl)

theorem X.ldc {index : Nat} {v : Int32} (hd : decode μ.2.1 pc = .ok (.ldc index, 2)) (hc : Cond.constant μ.1.cls index v ∈ xg) (k : X μ d R (pc + 2) L (.int v :: st) f g) : X μ d R pc L st f g := by
  intro p l e s m args below meth c D ct ad H locs ls hC hP hS hl
  obtain ⟨hx, hb, hml, hr, hlk, hown, hts, hK, hI, hO⟩ := id hC
  exact lv_ldc hx hb hown (hts _ hc) hd (k p l e s m args below meth c D ct ad H locs ls hC hP hS hl)

theorem X.ldc2 {index : Nat} {v : Int64} (hd : decode μ.2.1 pc = .ok (.ldc2_w index, 3)) (hc : Cond.constantLong μ.1.cls index v ∈ xg) (k : X μ d R (pc + 3) L (.long v :: st) f g) : X μ d R pc L st f g := by
  intro p l e s m args below meth c D ct ad H locs ls hC hP hS hl
  obtain ⟨hx, hb, hml, hr, hlk, hown, hts, hK, hI, hO⟩ := id hC
  exact lv_ldc2 hx hb hown (hts _ hc) hd (k p l e s m args below meth c D ct ad H locs ls hC hP hS hl)

theorem X.if_eq {x : Int32} {off : Int} {tgt : Nat} (hd : decode μ.2.1 pc = .ok (.ifCond .eq off, 3)) (ht : (pc : Int) + off = (tgt : Int)) (kt : x = 0 → X μ d R tgt L st f g) (kf : ¬ x = 0 → X μ d R (pc + 3) L st f g) : X μ d R pc L (.int x :: st) f g := by
  intro p l e s m args below meth c D ct ad H locs ls hC hP hS hl
  obtain ⟨hx, hb, hml, hr, hlk, hown, hts, hK, hI, hO⟩ := id hC
  exact lv_if_eq hx hb hd ht (fun q => kt q p l e s m args below meth c D ct ad H locs ls hC hP hS hl) (fun q => kf q p l e s m args below meth c D ct ad H locs ls hC hP hS hl)

theorem X.icmp_eq {x y : Int32} {off : Int} {tgt : Nat} (hd : decode μ.2.1 pc = .ok (.if_icmp .eq off, 3)) (ht : (pc : Int) + off = (tgt : Int)) (kt : x = y → X μ d R tgt L st f g) (kf : ¬ x = y → X μ d R (pc + 3) L st f g) : X μ d R pc L (.int y :: .int x :: st) f g := by
  intro p l e s m args below meth c D ct ad H locs ls hC hP hS hl
  obtain ⟨hx, hb, hml, hr, hlk, hown, hts, hK, hI, hO⟩ := id hC
  exact lv_icmp_eq hx hb hd ht (fun q => kt q p l e s m args below meth c D ct ad H locs ls hC hP hS hl) (fun q => kf q p l e s m args below meth c D ct ad H locs ls hC hP hS hl)

theorem X.if_ne {x : Int32} {off : Int} {tgt : Nat} (hd : decode μ.2.1 pc = .ok (.ifCond .ne off, 3)) (ht : (pc : Int) + off = (tgt : Int)) (kt : ¬ x = 0 → X μ d R tgt L st f g) (kf : x = 0 → X μ d R (pc + 3) L st f g) : X μ d R pc L (.int x :: st) f g := by
  intro p l e s m args below meth c D ct ad H locs ls hC hP hS hl
  obtain ⟨hx, hb, hml, hr, hlk, hown, hts, hK, hI, hO⟩ := id hC
  exact lv_if_ne hx hb hd ht (fun q => kt q p l e s m args below meth c D ct ad H locs ls hC hP hS hl) (fun q => kf q p l e s m args below meth c D ct ad H locs ls hC hP hS hl)

theorem X.icmp_ne {x y : Int32} {off : Int} {tgt : Nat} (hd : decode μ.2.1 pc = .ok (.if_icmp .ne off, 3)) (ht : (pc : Int) + off = (tgt : Int)) (kt : ¬ x = y → X μ d R tgt L st f g) (kf : x = y → X μ d R (pc + 3) L st f g) : X μ d R pc L (.int y :: .int x :: st) f g := by
  intro p l e s m args below meth c D ct ad H locs ls hC hP hS hl
  obtain ⟨hx, hb, hml, hr, hlk, hown, hts, hK, hI, hO⟩ := id hC
  exact lv_icmp_ne hx hb hd ht (fun q => kt q p l e s m args below meth c D ct ad H locs ls hC hP hS hl) (fun q => kf q p l e s m args below meth c D ct ad H locs ls hC hP hS hl)

theorem X.if_lt {x : Int32} {off : Int} {tgt : Nat} (hd : decode μ.2.1 pc = .ok (.ifCond .lt off, 3)) (ht : (pc : Int) + off = (tgt : Int)) (kt : x < 0 → X μ d R tgt L st f g) (kf : ¬ x < 0 → X μ d R (pc + 3) L st f g) : X μ d R pc L (.int x :: st) f g := by
  intro p l e s m args below meth c D ct ad H locs ls hC hP hS hl
  obtain ⟨hx, hb, hml, hr, hlk, hown, hts, hK, hI, hO⟩ := id hC
  exact lv_if_lt hx hb hd ht (fun q => kt q p l e s m args below meth c D ct ad H locs ls hC hP hS hl) (fun q => kf q p l e s m args below meth c D ct ad H locs ls hC hP hS hl)

theorem X.icmp_lt {x y : Int32} {off : Int} {tgt : Nat} (hd : decode μ.2.1 pc = .ok (.if_icmp .lt off, 3)) (ht : (pc : Int) + off = (tgt : Int)) (kt : x < y → X μ d R tgt L st f g) (kf : ¬ x < y → X μ d R (pc + 3) L st f g) : X μ d R pc L (.int y :: .int x :: st) f g := by
  intro p l e s m args below meth c D ct ad H locs ls hC hP hS hl
  obtain ⟨hx, hb, hml, hr, hlk, hown, hts, hK, hI, hO⟩ := id hC
  exact lv_icmp_lt hx hb hd ht (fun q => kt q p l e s m args below meth c D ct ad H locs ls hC hP hS hl) (fun q => kf q p l e s m args below meth c D ct ad H locs ls hC hP hS hl)

theorem X.if_ge {x : Int32} {off : Int} {tgt : Nat} (hd : decode μ.2.1 pc = .ok (.ifCond .ge off, 3)) (ht : (pc : Int) + off = (tgt : Int)) (kt : 0 ≤ x → X μ d R tgt L st f g) (kf : ¬ 0 ≤ x → X μ d R (pc + 3) L st f g) : X μ d R pc L (.int x :: st) f g := by
  intro p l e s m args below meth c D ct ad H locs ls hC hP hS hl
  obtain ⟨hx, hb, hml, hr, hlk, hown, hts, hK, hI, hO⟩ := id hC
  exact lv_if_ge hx hb hd ht (fun q => kt q p l e s m args below meth c D ct ad H locs ls hC hP hS hl) (fun q => kf q p l e s m args below meth c D ct ad H locs ls hC hP hS hl)

theorem X.icmp_ge {x y : Int32} {off : Int} {tgt : Nat} (hd : decode μ.2.1 pc = .ok (.if_icmp .ge off, 3)) (ht : (pc : Int) + off = (tgt : Int)) (kt : y ≤ x → X μ d R tgt L st f g) (kf : ¬ y ≤ x → X μ d R (pc + 3) L st f g) : X μ d R pc L (.int y :: .int x :: st) f g := by
  intro p l e s m args below meth c D ct ad H locs ls hC hP hS hl
  obtain ⟨hx, hb, hml, hr, hlk, hown, hts, hK, hI, hO⟩ := id hC
  exact lv_icmp_ge hx hb hd ht (fun q => kt q p l e s m args below meth c D ct ad H locs ls hC hP hS hl) (fun q => kf q p l e s m args below meth c D ct ad H locs ls hC hP hS hl)

theorem X.if_gt {x : Int32} {off : Int} {tgt : Nat} (hd : decode μ.2.1 pc = .ok (.ifCond .gt off, 3)) (ht : (pc : Int) + off = (tgt : Int)) (kt : 0 < x → X μ d R tgt L st f g) (kf : ¬ 0 < x → X μ d R (pc + 3) L st f g) : X μ d R pc L (.int x :: st) f g := by
  intro p l e s m args below meth c D ct ad H locs ls hC hP hS hl
  obtain ⟨hx, hb, hml, hr, hlk, hown, hts, hK, hI, hO⟩ := id hC
  exact lv_if_gt hx hb hd ht (fun q => kt q p l e s m args below meth c D ct ad H locs ls hC hP hS hl) (fun q => kf q p l e s m args below meth c D ct ad H locs ls hC hP hS hl)

theorem X.icmp_gt {x y : Int32} {off : Int} {tgt : Nat} (hd : decode μ.2.1 pc = .ok (.if_icmp .gt off, 3)) (ht : (pc : Int) + off = (tgt : Int)) (kt : y < x → X μ d R tgt L st f g) (kf : ¬ y < x → X μ d R (pc + 3) L st f g) : X μ d R pc L (.int y :: .int x :: st) f g := by
  intro p l e s m args below meth c D ct ad H locs ls hC hP hS hl
  obtain ⟨hx, hb, hml, hr, hlk, hown, hts, hK, hI, hO⟩ := id hC
  exact lv_icmp_gt hx hb hd ht (fun q => kt q p l e s m args below meth c D ct ad H locs ls hC hP hS hl) (fun q => kf q p l e s m args below meth c D ct ad H locs ls hC hP hS hl)

theorem X.if_le {x : Int32} {off : Int} {tgt : Nat} (hd : decode μ.2.1 pc = .ok (.ifCond .le off, 3)) (ht : (pc : Int) + off = (tgt : Int)) (kt : x ≤ 0 → X μ d R tgt L st f g) (kf : ¬ x ≤ 0 → X μ d R (pc + 3) L st f g) : X μ d R pc L (.int x :: st) f g := by
  intro p l e s m args below meth c D ct ad H locs ls hC hP hS hl
  obtain ⟨hx, hb, hml, hr, hlk, hown, hts, hK, hI, hO⟩ := id hC
  exact lv_if_le hx hb hd ht (fun q => kt q p l e s m args below meth c D ct ad H locs ls hC hP hS hl) (fun q => kf q p l e s m args below meth c D ct ad H locs ls hC hP hS hl)

theorem X.icmp_le {x y : Int32} {off : Int} {tgt : Nat} (hd : decode μ.2.1 pc = .ok (.if_icmp .le off, 3)) (ht : (pc : Int) + off = (tgt : Int)) (kt : x ≤ y → X μ d R tgt L st f g) (kf : ¬ x ≤ y → X μ d R (pc + 3) L st f g) : X μ d R pc L (.int y :: .int x :: st) f g := by
  intro p l e s m args below meth c D ct ad H locs ls hC hP hS hl
  obtain ⟨hx, hb, hml, hr, hlk, hown, hts, hK, hI, hO⟩ := id hC
  exact lv_icmp_le hx hb hd ht (fun q => kt q p l e s m args below meth c D ct ad H locs ls hC hP hS hl) (fun q => kf q p l e s m args below meth c D ct ad H locs ls hC hP hS hl)

theorem X.swIn {dflt lo hi : Int} {offs : Array Int} {len : Nat} {x v : Int32} {off : Int} {tgt : Nat} (hd : decode μ.2.1 pc = .ok (.tableswitch dflt lo hi offs, len)) (hv : x = v) (h1 : ¬ v.toInt < lo) (h2 : ¬ hi < v.toInt) (ho : offs[(v.toInt - lo).toNat]? = some off) (ht : (pc : Int) + off = (tgt : Int)) (k : X μ d R tgt L st f g) : X μ d R pc L (.int x :: st) f g := by
  intro p l e s m args below meth c D ct ad H locs ls hC hP hS hl
  obtain ⟨hx, hb, hml, hr, hlk, hown, hts, hK, hI, hO⟩ := id hC
  subst hv
  exact lv_tableIn hx hb hd h1 h2 ho ht (k p l e s m args below meth c D ct ad H locs ls hC hP hS hl)
theorem X.swOut {dflt lo hi : Int} {offs : Array Int} {len : Nat} {x : Int32} {tgt : Nat} (hd : decode μ.2.1 pc = .ok (.tableswitch dflt lo hi offs, len)) (h1 : x.toInt < lo ∨ hi < x.toInt) (ht : (pc : Int) + dflt = (tgt : Int)) (k : X μ d R tgt L st f g) : X μ d R pc L (.int x :: st) f g := by
  intro p l e s m args below meth c D ct ad H locs ls hC hP hS hl
  obtain ⟨hx, hb, hml, hr, hlk, hown, hts, hK, hI, hO⟩ := id hC
  exact lv_tableOut hx hb hd h1 ht (k p l e s m args below meth c D ct ad H locs ls hC hP hS hl)

theorem X.iret {v : Int32} (hd : decode μ.2.1 pc = .ok (.ireturn, 1)) (hret : μ.2.2.2.1 = some .int) (hR : R = (some (.int v), f, g)) : X μ d R pc L [.int v] f g := by
  intro p l e s m args below meth c D ct ad H locs ls hC hP hS hl
  obtain ⟨hx, hb, hml, hr, hlk, hown, hts, hK, hI, hO⟩ := id hC
  subst hR
  exact W.iret (v := v) hx hb (hr.trans hret) (fun t ht hW => ⟨⟨rfl, by rw [ht]; exact hP⟩, hS.F ht⟩) hS.2.2 hd (hlocks := hlk)
theorem X.zret {v : Int32} (hd : decode μ.2.1 pc = .ok (.ireturn, 1)) (hret : μ.2.2.2.1 = some .boolean) (hv : narrow .boolean (.int v) = .int v) (hR : R = (some (.int v), f, g)) : X μ d R pc L [.int v] f g := by
  intro p l e s m args below meth c D ct ad H locs ls hC hP hS hl
  obtain ⟨hx, hb, hml, hr, hlk, hown, hts, hK, hI, hO⟩ := id hC
  subst hR
  exact W.zret (v := v) hx hb (hr.trans hret) hv (fun t ht hW => ⟨⟨rfl, by rw [ht]; exact hP⟩, hS.F ht⟩) hS.2.2 hd (hlocks := hlk)
theorem X.lret {v : Int64} (hd : decode μ.2.1 pc = .ok (.lreturn, 1)) (hret : μ.2.2.2.1 = some .long) (hR : R = (some (.long v), f, g)) : X μ d R pc L [.long v] f g := by
  intro p l e s m args below meth c D ct ad H locs ls hC hP hS hl
  obtain ⟨hx, hb, hml, hr, hlk, hown, hts, hK, hI, hO⟩ := id hC
  subst hR
  exact W.lret (v := v) hx hb (hr.trans hret) (fun t ht hW => ⟨⟨rfl, by rw [ht]; exact hP⟩, hS.F ht⟩) hS.2.2 hd (hlocks := hlk)
theorem X.vret (hd : decode μ.2.1 pc = .ok (.return_, 1)) (hret : μ.2.2.2.1 = none) (hR : R = (none, f, g)) : X μ d R pc L [] f g := by
  intro p l e s m args below meth c D ct ad H locs ls hC hP hS hl
  obtain ⟨hx, hb, hml, hr, hlk, hown, hts, hK, hI, hO⟩ := id hC
  subst hR
  exact W.vret hx hb (hr.trans hret) (fun t ht hW => ⟨⟨rfl, by rw [ht]; exact hP⟩, hS.F ht⟩) hS.2.2 hd (hlocks := hlk)
end XR
end
section
/-! ===== the abstract machine: memory and calls ===== -/
def xcl (ci : Nat) (C : String) (T : u_T) (N : Nat) (ty : Nat → FieldType) : Prop := vwCl[ci]? = some (C, T, N) ∧ (∀ w ∈ u_ws C T N, w ∈ xg) ∧ (∀ k, k < N → parseFieldDescriptor (T k).2.2.1 = some (ty k)) ∧ (∀ a, a < N → ∀ b, b < N → a ≠ b → (T a).2.1 ≠ (T b).2.1)
theorem xg_ws {C : String} {T : u_T} {N : Nat} (h1 : (u_ws C T N).all (fun w => decide (w ∈ lw_tbl) && goodWord w) = true) : ∀ w ∈ u_ws C T N, w ∈ xg := fun w hw => by
  have h := List.all_eq_true.mp h1 w hw
  simp only [Bool.and_eq_true, decide_eq_true_eq] at h
  exact List.mem_filter.mpr h
section XR2
variable {μ : xm} {d : Nat} {R : xR} {pc : Nat} {L : List (Option Value)} {st : List Value} {f : xM} {g : xN} {i k0 ci N idx n : Nat} {C : String} {T : u_T} {ty : Nat → FieldType} {sl : List (Nat ⊕ Bool)}
theorem xmap_at {ad : Nat → Nat} {t : Nat ⊕ Bool} (h : sl[k0]? = some t) : (sl.mapIdx (fun k t => xv ad f g i k t))[k0]? = some (xv ad f g i k0 t) := by simp [List.getElem?_mapIdx, h]

theorem X.getI (hc : xcl ci C T N ty) (hs : μ.2.2.2.2[i]? = some (.inr (ci, sl))) (hk : k0 < N) (hsl : sl[k0]? = some (.inr false)) (hlink : Cond.fieldLink μ.1.cls idx (T k0).1 (T k0).2.1 (T k0).2.2.1 ∈ xg) (hd : decode μ.2.1 pc = .ok (.getfield idx, 3)) (k : X μ d R (pc + 3) L (.int (f i k0) :: st) f g) : X μ d R pc L (.ref i :: st) f g := by
  intro p l e s m args below meth c D ct ad H locs ls hC hP hS hl
  obtain ⟨hx, hb, hml, hr, hlk, hown, hts, hK, hI, hO⟩ := id hC
  exact va_get hx hb hts hc.2.1 hown hK.1 hP i (xw_at hs) hc.1 k0 hk (hts _ hlink) (fun _ h9 => h9) (xmap_at hsl) hd (k p l e s m args below meth c D ct ad H locs ls hC hP hS hl)
theorem X.getIN {host : String} (hc : xcl ci C T N ty) (hs : μ.2.2.2.2[i]? = some (.inr (ci, sl))) (hk : k0 < N) (hsl : sl[k0]? = some (.inr false)) (hlink : Cond.fieldLinkNest μ.1.cls idx (T k0).1 (T k0).2.1 (T k0).2.2.1 host ∈ xn) (hd : decode μ.2.1 pc = .ok (.getfield idx, 3)) (k : X μ d R (pc + 3) L (.int (f i k0) :: st) f g) : X μ d R pc L (.ref i :: st) f g := by
  intro p l e s m args below meth c D ct ad H locs ls hC hP hS hl
  obtain ⟨hx, hb, hml, hr, hlk, hown, hts, hK, hI, hO⟩ := id hC
  exact va_getN hx hb hts hc.2.1 hown hK.1 hP i (xw_at hs) hc.1 k0 hk (va_Nw.use rfl (hK.2 _ hlink)) (fun _ h9 => h9) (xmap_at hsl) hd (k p l e s m args below meth c D ct ad H locs ls hC hP hS hl)

theorem X.getL (hc : xcl ci C T N ty) (hs : μ.2.2.2.2[i]? = some (.inr (ci, sl))) (hk : k0 < N) (hsl : sl[k0]? = some (.inr true)) (hlink : Cond.fieldLink μ.1.cls idx (T k0).1 (T k0).2.1 (T k0).2.2.1 ∈ xg) (hd : decode μ.2.1 pc = .ok (.getfield idx, 3)) (k : X μ d R (pc + 3) L (.long (g i k0) :: st) f g) : X μ d R pc L (.ref i :: st) f g := by
  intro p l e s m args below meth c D ct ad H locs ls hC hP hS hl
  obtain ⟨hx, hb, hml, hr, hlk, hown, hts, hK, hI, hO⟩ := id hC
  exact va_get hx hb hts hc.2.1 hown hK.1 hP i (xw_at hs) hc.1 k0 hk (hts _ hlink) (fun _ h9 => h9) (xmap_at hsl) hd (k p l e s m args below meth c D ct ad H locs ls hC hP hS hl)
theorem X.getLN {host : String} (hc : xcl ci C T N ty) (hs : μ.2.2.2.2[i]? = some (.inr (ci, sl))) (hk : k0 < N) (hsl : sl[k0]? = some (.inr true)) (hlink : Cond.fieldLinkNest μ.1.cls idx (T k0).1 (T k0).2.1 (T k0).2.2.1 host ∈ xn) (hd : decode μ.2.1 pc = .ok (.getfield idx, 3)) (k : X μ d R (pc + 3) L (.long (g i k0) :: st) f g) : X μ d R pc L (.ref i :: st) f g := by
  intro p l e s m args below meth c D ct ad H locs ls hC hP hS hl
  obtain ⟨hx, hb, hml, hr, hlk, hown, hts, hK, hI, hO⟩ := id hC
  exact va_getN hx hb hts hc.2.1 hown hK.1 hP i (xw_at hs) hc.1 k0 hk (va_Nw.use rfl (hK.2 _ hlink)) (fun _ h9 => h9) (xmap_at hsl) hd (k p l e s m args below meth c D ct ad H locs ls hC hP hS hl)

theorem X.getR {j : Nat} (hc : xcl ci C T N ty) (hs : μ.2.2.2.2[i]? = some (.inr (ci, sl))) (hk : k0 < N) (hsl : sl[k0]? = some (.inl j)) (hlink : Cond.fieldLink μ.1.cls idx (T k0).1 (T k0).2.1 (T k0).2.2.1 ∈ xg) (hd : decode μ.2.1 pc = .ok (.getfield idx, 3)) (k : X μ d R (pc + 3) L (.ref j :: st) f g) : X μ d R pc L (.ref i :: st) f g := by
  intro p l e s m args below meth c D ct ad H locs ls hC hP hS hl
  obtain ⟨hx, hb, hml, hr, hlk, hown, hts, hK, hI, hO⟩ := id hC
  exact va_get hx hb hts hc.2.1 hown hK.1 hP i (xw_at hs) hc.1 k0 hk (hts _ hlink) (fun _ h9 => h9) (xmap_at hsl) hd (k p l e s m args below meth c D ct ad H locs ls hC hP hS hl)
theorem X.getRN {j : Nat} {host : String} (hc : xcl ci C T N ty) (hs : μ.2.2.2.2[i]? = some (.inr (ci, sl))) (hk : k0 < N) (hsl : sl[k0]? = some (.inl j)) (hlink : Cond.fieldLinkNest μ.1.cls idx (T k0).1 (T k0).2.1 (T k0).2.2.1 host ∈ xn) (hd : decode μ.2.1 pc = .ok (.getfield idx, 3)) (k : X μ d R (pc + 3) L (.ref j :: st) f g) : X μ d R pc L (.ref i :: st) f g := by
  intro p l e s m args below meth c D ct ad H locs ls hC hP hS hl
  obtain ⟨hx, hb, hml, hr, hlk, hown, hts, hK, hI, hO⟩ := id hC
  exact va_getN hx hb hts hc.2.1 hown hK.1 hP i (xw_at hs) hc.1 k0 hk (va_Nw.use rfl (hK.2 _ hlink)) (fun _ h9 => h9) (xmap_at hsl) hd (k p l e s m args below meth c D ct ad H locs ls hC hP hS hl)

theorem X.putI {v : Int32} (hc : xcl ci C T N ty) (hs : μ.2.2.2.2[i]? = some (.inr (ci, sl))) (hk : k0 < N) (hsl : sl[k0]? = some (.inr false)) (hlink : Cond.fieldLink μ.1.cls idx (T k0).1 (T k0).2.1 (T k0).2.2.1 ∈ xg) (hfin : (T k0).2.2.2 = false) (hty : ty k0 = .int) (hd : decode μ.2.1 pc = .ok (.putfield idx, 3)) (k : X μ d R (pc + 3) L st (xu f i k0 v) g) : X μ d R pc L (.int v :: .ref i :: st) f g := by
  intro p l e s m args below meth c D ct ad H locs ls hC hP hS hl
  obtain ⟨hx, hb, hml, hr, hlk, hown, hts, hK, hI, hO⟩ := id hC
  refine va_put (v := .int v) hx hb hts hc.2.1 ty hc.2.2.1 hc.2.2.2 hown hK.1 hP (xw_D hI) hS i (xw_at hs) hc.1 k0 hk (hts _ hlink) (fun _ h9 => h9) hfin ((hc.2.2.1 k0 hk).trans (congrArg some hty)) rfl rfl (by have := (List.getElem?_eq_some_iff.mp hsl).1; simpa using this) hd (fun H locs hP hD hS => ?_)
  rw [xw_setI hs hsl] at hP
  exact k p l e s m args below meth c D ct ad H locs ls hC hP hS hl
theorem X.putIN {v : Int32} {host : String} (hc : xcl ci C T N ty) (hs : μ.2.2.2.2[i]? = some (.inr (ci, sl))) (hk : k0 < N) (hsl : sl[k0]? = some (.inr false)) (hlink : Cond.fieldLinkNest μ.1.cls idx (T k0).1 (T k0).2.1 (T k0).2.2.1 host ∈ xn) (hfin : (T k0).2.2.2 = false) (hty : ty k0 = .int) (hd : decode μ.2.1 pc = .ok (.putfield idx, 3)) (k : X μ d R (pc + 3) L st (xu f i k0 v) g) : X μ d R pc L (.int v :: .ref i :: st) f g := by
  intro p l e s m args below meth c D ct ad H locs ls hC hP hS hl
  obtain ⟨hx, hb, hml, hr, hlk, hown, hts, hK, hI, hO⟩ := id hC
  refine va_putN (v := .int v) hx hb hts hc.2.1 ty hc.2.2.1 hc.2.2.2 hown hK.1 hP (xw_D hI) hS i (xw_at hs) hc.1 k0 hk (va_Nw.use rfl (hK.2 _ hlink)) (fun _ h9 => h9) hfin ((hc.2.2.1 k0 hk).trans (congrArg some hty)) rfl rfl (by have := (List.getElem?_eq_some_iff.mp hsl).1; simpa using this) hd (fun H locs hP hD hS => ?_)
  rw [xw_setI hs hsl] at hP
  exact k p l e s m args below meth c D ct ad H locs ls hC hP hS hl

theorem X.putL {v : Int64} (hc : xcl ci C T N ty) (hs : μ.2.2.2.2[i]? = some (.inr (ci, sl))) (hk : k0 < N) (hsl : sl[k0]? = some (.inr true)) (hlink : Cond.fieldLink μ.1.cls idx (T k0).1 (T k0).2.1 (T k0).2.2.1 ∈ xg) (hfin : (T k0).2.2.2 = false) (hty : ty k0 = .long) (hd : decode μ.2.1 pc = .ok (.putfield idx, 3)) (k : X μ d R (pc + 3) L st f (xu g i k0 v)) : X μ d R pc L (.long v :: .ref i :: st) f g := by
  intro p l e s m args below meth c D ct ad H locs ls hC hP hS hl
  obtain ⟨hx, hb, hml, hr, hlk, hown, hts, hK, hI, hO⟩ := id hC
  refine va_put (v := .long v) hx hb hts hc.2.1 ty hc.2.2.1 hc.2.2.2 hown hK.1 hP (xw_D hI) hS i (xw_at hs) hc.1 k0 hk (hts _ hlink) (fun _ h9 => h9) hfin ((hc.2.2.1 k0 hk).trans (congrArg some hty)) rfl rfl (by have := (List.getElem?_eq_some_iff.mp hsl).1; simpa using this) hd (fun H locs hP hD hS => ?_)
  rw [xw_setL hs hsl] at hP
  exact k p l e s m args below meth c D ct ad H locs ls hC hP hS hl
theorem X.putLN {v : Int64} {host : String} (hc : xcl ci C T N ty) (hs : μ.2.2.2.2[i]? = some (.inr (ci, sl))) (hk : k0 < N) (hsl : sl[k0]? = some (.inr true)) (hlink : Cond.fieldLinkNest μ.1.cls idx (T k0).1 (T k0).2.1 (T k0).2.2.1 host ∈ xn) (hfin : (T k0).2.2.2 = false) (hty : ty k0 = .long) (hd : decode μ.2.1 pc = .ok (.putfield idx, 3)) (k : X μ d R (pc + 3) L st f (xu g i k0 v)) : X μ d R pc L (.long v :: .ref i :: st) f g := by
  intro p l e s m args below meth c D ct ad H locs ls hC hP hS hl
  obtain ⟨hx, hb, hml, hr, hlk, hown, hts, hK, hI, hO⟩ := id hC
  refine va_putN (v := .long v) hx hb hts hc.2.1 ty hc.2.2.1 hc.2.2.2 hown hK.1 hP (xw_D hI) hS i (xw_at hs) hc.1 k0 hk (va_Nw.use rfl (hK.2 _ hlink)) (fun _ h9 => h9) hfin ((hc.2.2.1 k0 hk).trans (congrArg some hty)) rfl rfl (by have := (List.getElem?_eq_some_iff.mp hsl).1; simpa using this) hd (fun H locs hP hD hS => ?_)
  rw [xw_setL hs hsl] at hP
  exact k p l e s m args below meth c D ct ad H locs ls hC hP hS hl

abbrev xin (j : Int32) (n : Nat) : Prop := ¬ (j < 0 ∨ n ≤ j.toNatClampNeg)
theorem X.iald {j : Int32} (hs : μ.2.2.2.2[i]? = some (.inl (false, n))) (hin : xin j n) (hd : decode μ.2.1 pc = .ok (.iaload, 1)) (k : X μ d R (pc + 1) L (.int (f i j.toNatClampNeg) :: st) f g) : X μ d R pc L (.int j :: .ref i :: st) f g := by
  intro p l e s m args below meth c D ct ad H locs ls hC hP hS hl
  obtain ⟨hx, hb, hml, hr, hlk, hown, hts, hK, hI, hO⟩ := id hC
  exact va_iald hx hb hK.1 hP i 0 (xw_at hs) rfl hin hd (k p l e s m args below meth c D ct ad H locs ls hC hP hS hl)
theorem X.zald {j : Int32} (hs : μ.2.2.2.2[i]? = some (.inl (true, n))) (hin : xin j n) (hd : decode μ.2.1 pc = .ok (.baload, 1)) (k : X μ d R (pc + 1) L (.int (f i j.toNatClampNeg) :: st) f g) : X μ d R pc L (.int j :: .ref i :: st) f g := by
  intro p l e s m args below meth c D ct ad H locs ls hC hP hS hl
  obtain ⟨hx, hb, hml, hr, hlk, hown, hts, hK, hI, hO⟩ := id hC
  exact va_zald hx hb hK.1 hP i 1 (xw_at hs) rfl hin hd (k p l e s m args below meth c D ct ad H locs ls hC hP hS hl)
theorem X.iast {j v : Int32} (hs : μ.2.2.2.2[i]? = some (.inl (false, n))) (hin : xin j n) (hd : decode μ.2.1 pc = .ok (.iastore, 1)) (k : X μ d R (pc + 1) L st (xu f i j.toNatClampNeg v) g) : X μ d R pc L (.int v :: .int j :: .ref i :: st) f g := by
  intro p l e s m args below meth c D ct ad H locs ls hC hP hS hl
  obtain ⟨hx, hb, hml, hr, hlk, hown, hts, hK, hI, hO⟩ := id hC
  refine va_iast hx hb hK.1 hP (xw_D hI) hS i 0 (xw_at hs) rfl hin hd (fun H locs hP hD hS => ?_)
  rw [xw_setA hs, xu_xrow] at hP
  exact k p l e s m args below meth c D ct ad H locs ls hC hP hS hl
theorem X.zast {j v : Int32} (hs : μ.2.2.2.2[i]? = some (.inl (true, n))) (hin : xin j n) (hv : vp_nar .boolean v = v) (hd : decode μ.2.1 pc = .ok (.bastore, 1)) (k : X μ d R (pc + 1) L st (xu f i j.toNatClampNeg v) g) : X μ d R pc L (.int v :: .int j :: .ref i :: st) f g := by
  intro p l e s m args below meth c D ct ad H locs ls hC hP hS hl
  obtain ⟨hx, hb, hml, hr, hlk, hown, hts, hK, hI, hO⟩ := id hC
  refine va_zast hx hb hK.1 hP (xw_D hI) hS i 1 (xw_at hs) rfl hin hd (fun H locs hP hD hS => ?_)
  rw [hv, xw_setA hs, xu_xrow] at hP
  exact k p l e s m args below meth c D ct ad H locs ls hC hP hS hl
theorem X.alen {z : Bool} {v : Int32} (hs : μ.2.2.2.2[i]? = some (.inl (z, n))) (hv : Int32.ofNat n = v) (hd : decode μ.2.1 pc = .ok (.arraylength, 1)) (k : X μ d R (pc + 1) L (.int v :: st) f g) : X μ d R pc L (.ref i :: st) f g := by
  intro p l e s m args below meth c D ct ad H locs ls hC hP hS hl
  obtain ⟨hx, hb, hml, hr, hlk, hown, hts, hK, hI, hO⟩ := id hC
  cases z with
  | false => exact va_alen hx hb hK.1 hP i 0 (xw_at hs) (ty := .int) rfl hv hd (k p l e s m args below meth c D ct ad H locs ls hC hP hS hl)
  | true => exact va_alen hx hb hK.1 hP i 1 (xw_at hs) (ty := .boolean) rfl hv hd (k p l e s m args below meth c D ct ad H locs ls hC hP hS hl)
theorem X.copy {i0 n0 n1 : Nat} {sp dp len : Int32} (hlink : Cond.methodLink μ.1.cls idx arraycopyName ∈ xg) (hnat : Cond.native arraycopyName ∈ xg) (hstat : Cond.static arraycopyName ∈ xg) (hini : Cond.initialized "java/lang/System" ∈ xg)
    (hs0 : μ.2.2.2.2[i0]? = some (.inl (false, n0))) (hs1 : μ.2.2.2.2[i]? = some (.inl (false, n1))) (h1 : ¬ sp < 0) (h2 : ¬ dp < 0) (h3 : ¬ len < 0) (h4 : sp.toNatClampNeg + len.toNatClampNeg ≤ n0) (h5 : dp.toNatClampNeg + len.toNatClampNeg ≤ n1) (hfr : 1 ≤ d) (hcat : (st.map fun v => v.category).sum ≤ 8)
    (hd : decode μ.2.1 pc = .ok (.invokestatic idx, 3)) (k : X μ d R (pc + 3) L st (xrow f i (va_cpy (f i0) (f i) sp.toNatClampNeg dp.toNatClampNeg len.toNatClampNeg)) g) : X μ d R pc L (.int len :: .int dp :: .ref i :: .int sp :: .ref i0 :: st) f g := by
  intro p l e s m args below meth c D ct ad H locs ls hC hP hS hl
  obtain ⟨hx, hb, hml, hr, hlk, hown, hts, hK, hI, hO⟩ := id hC
  have hcat2 : ((st.map (xt ad)).map fun v => v.category).sum ≤ 8 := by
    rw [List.map_map]
    have : ((fun v : Value => v.category) ∘ xt ad) = fun v => v.category := by funext v; exact xt_cat ad v
    rw [this]; exact hcat
  have hw : nativeFrameWords "java/lang/System" "arraycopy" 5 + 11 ≤ 40 := by decide
  refine va_copyi hx hb (hml.trans hl.1.symm) hown (hts _ hlink) (hts _ hnat) (hts _ hstat) (hts _ hini) hK.1 hP (xw_D hI) hS i0 i 0 0 (xw_at hs0) (xw_at hs1) (ty := .int) rfl rfl rfl h1 h2 h3 h4 h5 (fun _ _ => rfl) hfr (by show _ ≤ 64 * d; omega) hd (fun H locs hP hD hS => ?_)
  rw [xw_setA hs1] at hP
  exact k p l e s m args below meth c D ct ad H locs ls hC hP hS hl
theorem X.ldcw {v : Int32} (hd : decode μ.2.1 pc = .ok (.ldc_w idx, 3)) (hc : Cond.constant μ.1.cls idx v ∈ xg) (k : X μ d R (pc + 3) L (.int v :: st) f g) : X μ d R pc L st f g := by
  intro p l e s m args below meth c D ct ad H locs ls hC hP hS hl
  obtain ⟨hx, hb, hml, hr, hlk, hown, hts, hK, hI, hO⟩ := id hC
  exact lv_ldcw hx hb hown (hts _ hc) hd (k p l e s m args below meth c D ct ad H locs ls hC hP hS hl)
theorem xcat {ad : Nat → Nat} (hcat : (st.map fun v => v.category).sum ≤ 8) : ((st.map (xt ad)).map fun v => v.category).sum ≤ 8 := by
  rw [List.map_map]
  have : ((fun v : Value => v.category) ∘ xt ad) = fun v => v.category := by funext v; exact xt_cat ad v
  rw [this]; exact hcat
theorem X.max {x y : Int32} (hlink : Cond.methodLink μ.1.cls idx Lib.Math.max.name ∈ xg) (hstat : Cond.static Lib.Math.max.name ∈ xg) (hini : Cond.initialized "java/lang/Math" ∈ xg) (hcode : Cond.code Lib.Math.max.name Lib.Math.max.code 2 (some .int) ∈ xg) (hfr : 1 ≤ d) (hcat : (st.map fun v => v.category).sum ≤ 8) (hd : decode μ.2.1 pc = .ok (.invokestatic idx, 3)) (k : X μ d R (pc + 3) L (.int (if x < y then y else x) :: st) f g) : X μ d R pc L (.int y :: .int x :: st) f g := by
  intro p l e s m args below meth c D ct ad H locs ls hC hP hS hl
  obtain ⟨hx, hb, hml, hr, hlk, hown, hts, hK, hI, hO⟩ := id hC
  have hc2 := xcat (ad := ad) hcat
  exact va_mmax hx hb (hml.trans hl.1.symm) hown (hts _ hlink) (hts _ hstat) (hts _ hini) (hts _ hcode) hfr (by show _ ≤ 64 * d; omega) (Nat.zero_le _) (Nat.zero_le _) hd (k p l e s m args below meth c D ct ad H locs ls hC hP hS hl)
theorem X.min {x y : Int32} (hlink : Cond.methodLink μ.1.cls idx Lib.Math.min.name ∈ xg) (hstat : Cond.static Lib.Math.min.name ∈ xg) (hini : Cond.initialized "java/lang/Math" ∈ xg) (hcode : Cond.code Lib.Math.min.name Lib.Math.min.code 2 (some .int) ∈ xg) (hfr : 1 ≤ d) (hcat : (st.map fun v => v.category).sum ≤ 8) (hd : decode μ.2.1 pc = .ok (.invokestatic idx, 3)) (k : X μ d R (pc + 3) L (.int (if y < x then y else x) :: st) f g) : X μ d R pc L (.int y :: .int x :: st) f g := by
  intro p l e s m args below meth c D ct ad H locs ls hC hP hS hl
  obtain ⟨hx, hb, hml, hr, hlk, hown, hts, hK, hI, hO⟩ := id hC
  have hc2 := xcat (ad := ad) hcat
  exact va_mmin hx hb (hml.trans hl.1.symm) hown (hts _ hlink) (hts _ hstat) (hts _ hini) (hts _ hcode) hfr (by show _ ≤ 64 * d; omega) (Nat.zero_le _) (Nat.zero_le _) hd (k p l e s m args below meth c D ct ad H locs ls hC hP hS hl)
end XR2
/-! a method's contract -/
def xPc (sh : xS) (D : va_G) (ct : Bool → ClassId) (ad : Nat → Nat) (as : List Value) (f : xM) (g : xN) : Array Value → State → Prop := va_Pc (as.map (xt ad)) (fun U => xK D ct U ∧ xI ad sh.length ∧ xO (xA ad sh.length) U U.heap ∧ va_P D vwCl (xw ct ad sh f g) U.heap)
def XT (μ : xm) (d : Nat) (as : List Value) (f : xM) (g : xN) (R : xR) : Prop := ∀ (l : Launch) (D : va_G) (ct : Bool → ClassId) (ad : Nat → Nat), Met l μ.1 (.code μ.1 μ.2.1 μ.2.2.1 μ.2.2.2.1 :: xg) (xr d) (xPc μ.2.2.2.2 D ct ad as f g) (xQ D ct ad μ.2.2.2.2 R) 0 0 (xA ad μ.2.2.2.2.length)
def xent : List Value → List (Option Value)
  | [] => []
  | v :: t => if v.category = 2 then some v :: none :: xent t else some v :: xent t
theorem xent_at {ad : Nat → Nat} {v : Value} : ∀ {as : List Value} {i0 i : Nat}, (xent as)[i]? = some (some v) → (i0 + i, xt ad v) ∈ lv_args i0 (as.map (xt ad)) := by
  intro as
  induction as with
  | nil => intro i0 i h; simp [xent] at h
  | cons u t ih =>
    intro i0 i h
    simp only [xent] at h
    simp only [List.map_cons, lv_args, xt_cat, List.mem_cons]
    by_cases hu : u.category = 2
    · rw [if_pos hu] at h ⊢
      match i with
      | 0 => left; simp at h; rw [h]; rfl
      | 1 => simp at h
      | i + 2 =>
        right
        have := ih (i0 := i0 + 2) (i := i) (by simpa using h)
        rw [show i0 + (i + 2) = i0 + 2 + i by omega]; exact this
    · rw [if_neg hu] at h ⊢
      match i with
      | 0 => left; simp at h; rw [h]; rfl
      | i + 1 =>
        right
        have := ih (i0 := i0 + 1) (i := i) (by simpa using h)
        rw [show i0 + (i + 1) = i0 + 1 + i by omega]; exact this
theorem xsl_len {ad : Nat → Nat} : ∀ {as : List Value}, (lg_sl (as.map (xt ad))).length = (lg_sl as).length := by
  intro as
  induction as with
  | nil => rfl
  | cons v t ih =>
    simp only [lg_sl, List.map_cons, List.flatMap_cons, List.length_append, xt_cat] at ih ⊢
    rw [ih]
    by_cases h : v.category = 2 <;> simp [h]
theorem XT.of {μ : xm} {d : Nat} {as : List Value} {f : xM} {g : xN} {R : xR} {L : List (Option Value)} (hy : plainName μ.1.cls = true) (hn : (lg_sl as).length ≤ μ.2.2.1) (hL : xle L (xent as)) (k : X μ d R 0 L [] f g) : XT μ d as f g R := by
  intro l D ct ad
  refine Met.ofW (cc := μ.2.1) (maxL := μ.2.2.1) (ret := μ.2.2.2.1) hy rfl ?_
  intro p e s m args below meth c s₁ B hml hv
  obtain ⟨rfl, hK, hI, hO, hP⟩ := hv
  have hts := atoms_spec (ws := .code μ.1 μ.2.1 μ.2.2.1 μ.2.2.2.1 :: xg) B.pre
  have hl := lv_entry (as.map (xt ad)) (n := μ.2.2.1) (by rw [xsl_len]; exact hn)
  rw [lg_entry_eq]
  generalize (lg_sl (as.map (xt ad)) ++ List.replicate (μ.2.2.1 - (lg_sl (as.map (xt ad))).length) Slot.unset).toArray = ls at hl ⊢
  refine k p l e s m _ below meth c D ct ad s.heap [] ls ⟨B.exec, B.bytes, hml, B.returns, B.notSynchronized, findClass_of_methodNamed B.named, fun w hw => hts w (List.mem_cons_of_mem _ hw), hK, hI, hO⟩ hP va_S.rf (xl_le hL ⟨hl.1, hl.2.1, fun i v hi => ?_⟩)
  have := hl.2.2 _ (xent_at (ad := ad) (i0 := 0) hi)
  simpa using this
theorem xPc_blind {sh : xS} {D : va_G} {ct : Bool → ClassId} {ad : Nat → Nat} {as : List Value} {f : xM} {g : xN} : FrameBlind (xPc sh D ct ad as f g) := by
  intro a U g1 mk q
  obtain ⟨q0, qK, qI, ⟨t, qZ, qT⟩, qP⟩ := q
  exact ⟨q0, qK.calling, qI, ⟨t, va_Z.moved (u := U) (U := U.calling g1 mk a) (Vm.Alike.refl U.vm) qZ, va_T.moved (u := U) (U := U.calling g1 mk a) (Vm.Alike.refl U.vm) qT⟩, qP⟩
theorem xPc_at {sh : xS} {D : va_G} {ct : Bool → ClassId} {ad : Nat → Nat} {as : List Value} {f : xM} {g : xN} {s U : State} {H : Heap} {locs : List Loc} (hK : xK D ct s) (hI : xI ad sh.length) (hO : xO (xA ad sh.length) s s.heap) (hP : va_P D vwCl (xw ct ad sh f g) H) (hS : va_S (xA ad sh.length) s.heap H locs) (hU : U.heap = H) (hW : s.WarmedH U.vm) : xPc sh D ct ad as f g (as.map (xt ad)).toArray U := by
  subst hU
  obtain ⟨t, hZ, hT⟩ := hO
  exact ⟨rfl, hK.moved hW, hI, ⟨t, va_Z.moved hW.alike (hZ.kept hS.2.1), va_T.moved hW.alike (hT.kept hS.2.1)⟩, hP⟩
section XCALL
variable {p : Program} {l : Launch} {e : Env} {Ro : Room} {s : State} {m : MethodId} {args : Array Value} {below : List Frame} {meth : Method} {c : Code} {H : Heap} {locs : List Loc} {Q : State → Prop}
theorem x_call {D : va_G} {ct : Bool → ClassId} {ad : Nat → Nat} {sh : xS} {R' : xR} {a : Array Value} {pc : Nat} {ls : Array Slot} {st0 rest : List Value} (hr : va_Run p l e Ro s m args below meth c H locs 0 0 0 0 (F0 m pc ls st0) rest (xQ D ct ad sh R' a) (xA ad sh.length)) (hS : va_S (xA ad sh.length) s.heap H locs)
    (kk : ∀ (H1 : Heap) (locs1 : List Loc), va_P D vwCl (xw ct ad sh R'.2.1 R'.2.2) H1 → va_S (xA ad sh.length) s.heap H1 locs1 → W p l e Ro s m args below meth c H1 locs1 0 0 Q (F0 m (pc + 3) ls ((R'.1.map (xt ad)).toList ++ rest))) : W p l e Ro s m args below meth c H locs 0 0 Q (F0 m pc ls st0) := by
  intro T hT X
  obtain ⟨v, st₀, t, T', L, h0, X', hL, e1, e2, ⟨⟨hv, hP⟩, hz, hk⟩, st⟩ := hr T hT X
  cases hv
  rw [h0] at hz hk
  obtain ⟨t2, a1, b1⟩ := kk T'.heap (locs ++ L) (by rw [e1]; exact hP)
    ⟨Nat.le_trans hS.1 (by rw [e1]; exact hz), fun q h1 h2 => by rw [e1, hk q (Nat.lt_of_lt_of_le h1 hS.1) h2]; exact hS.2.1 q h1 h2, fun q hq => by
      rcases List.mem_append.mp hq with h | h
      · exact hS.2.2 q h
      · exact hL q h⟩ T' rfl X'
  exact ⟨t2, st t2 a1, b1⟩
end XCALL
theorem xret_map {ad : Nat → Nat} {r : Option Value} {st : List Value} : ((r.toList ++ st).map (xt ad)) = (r.map (xt ad)).toList ++ st.map (xt ad) := by cases r <;> simp
/-- the words of a callee -/
def xcv (μ : xm) (n : Nat) : Prop := Cond.instanceMethod μ.1 ∈ xg ∧ Cond.selects μ.1.cls μ.1 μ.1 ∈ xg ∧ Cond.initialized μ.1.cls ∈ xg ∧ Cond.code μ.1 μ.2.1 μ.2.2.1 μ.2.2.2.1 ∈ xg ∧ μ.2.2.1 ≤ 40 ∧ (μ.1.cls ≠ "java/lang/invoke/MethodHandle" ∧ μ.1.cls ≠ "java/lang/invoke/VarHandle" ∧ (parseMethodDescriptor μ.1.desc).map (fun d => d.parameters.length) = some n)
def xcs (μ : xm) (n : Nat) : Prop := Cond.static μ.1 ∈ xg ∧ Cond.initialized μ.1.cls ∈ xg ∧ Cond.code μ.1 μ.2.1 μ.2.2.1 μ.2.2.2.1 ∈ xg ∧ μ.2.2.1 ≤ 40 ∧ (μ.1.cls ≠ "java/lang/invoke/MethodHandle" ∧ μ.1.cls ≠ "java/lang/invoke/VarHandle" ∧ (parseMethodDescriptor μ.1.desc).map (fun d => d.parameters.length) = some n)
theorem xcv_of {μ : xm} {n : Nat} (a b c e : Nat) (h : lw_tbl[a]? = some (Cond.instanceMethod μ.1) ∧ lw_tbl[b]? = some (Cond.selects μ.1.cls μ.1 μ.1) ∧ lw_tbl[c]? = some (Cond.initialized μ.1.cls) ∧ lw_tbl[e]? = some (Cond.code μ.1 μ.2.1 μ.2.2.1 μ.2.2.2.1)) (h2 : μ.2.2.1 ≤ 40 ∧ (μ.1.cls ≠ "java/lang/invoke/MethodHandle" ∧ μ.1.cls ≠ "java/lang/invoke/VarHandle" ∧ (parseMethodDescriptor μ.1.desc).map (fun d => d.parameters.length) = some n)) : xcv μ n :=
  ⟨xg_in a h.1 rfl, xg_in b h.2.1 rfl, xg_in c h.2.2.1 rfl, xg_in e h.2.2.2 rfl, h2⟩
theorem xcs_of {μ : xm} {n : Nat} (a c e : Nat) (h : lw_tbl[a]? = some (Cond.static μ.1) ∧ lw_tbl[c]? = some (Cond.initialized μ.1.cls) ∧ lw_tbl[e]? = some (Cond.code μ.1 μ.2.1 μ.2.2.1 μ.2.2.2.1)) (h2 : μ.2.2.1 ≤ 40 ∧ (μ.1.cls ≠ "java/lang/invoke/MethodHandle" ∧ μ.1.cls ≠ "java/lang/invoke/VarHandle" ∧ (parseMethodDescriptor μ.1.desc).map (fun d => d.parameters.length) = some n)) : xcs μ n :=
  ⟨xg_in a h.1 rfl, xg_in c h.2.1 rfl, xg_in e h.2.2 rfl, h2⟩
section XR3
variable {μ μ' : xm} {d d' : Nat} {R : xR} {pc : Nat} {L : List (Option Value)} {st st0 As : List Value} {f f' : xM} {g g' : xN} {i ci N idx n : Nat} {C : String} {T : u_T} {ty : Nat → FieldType} {sl : List (Nat ⊕ Bool)} {r : Option Value}
theorem X.callV (hM : XT μ' d' (.ref i :: As) f g (r, f', g')) (hd' : d' + 1 ≤ d) (hcw : xcv μ' n) (hsh : μ'.2.2.2.2 = μ.2.2.2.2) (hlink : Cond.methodLink μ.1.cls idx μ'.1 ∈ xg) (hs : μ.2.2.2.2[i]? = some (.inr (ci, sl))) (hcl : xcl ci μ'.1.cls T N ty) (hlen : As.length = n) (hst : st0 = As.reverse ++ .ref i :: st) (hcat : (st.map fun v => v.category).sum ≤ 8) (hd : decode μ.2.1 pc = .ok (.invokevirtual idx, 3)) (k : X μ d R (pc + 3) L (r.toList ++ st) f' g') : X μ d R pc L st0 f g := by
  intro p l e s m args below meth c D ct ad H locs ls hC hP hS hl
  obtain ⟨hx, hb, hml, hr, hlk, hown, hts, hK, hI, hO⟩ := id hC
  obtain ⟨h1, h2, h3, h4, h5, h6, h7, h8⟩ := hcw
  have hM1 := hM l D ct ad
  rw [hsh] at hM1
  subst hst
  refine x_call (va_runV (As := As.map (xt ad)) (rest := st.map (xt ad)) (Ts := xg) (C := μ'.1.cls) ⟨hx, hb, hml, hown, hts⟩ hM1 (cwV n hts (fun w hw => ?_) rfl rfl rfl ⟨rfl, h6, h7, h8⟩ ⟨hd', by show 8 + (μ'.2.2.1 + 11) + 64 * d' ≤ 64 * d; omega⟩) ⟨xPc_blind, va_recv hK.1 hP hcl.1 (xw_at hs), fun U hU hW => xPc_at hK hI hO hP hS hU hW⟩ rfl (by simpa using hlen) hl.1 (by simp [xt]) (lv_room (xcat hcat)) hd ⟨Nat.zero_le _, Nat.zero_le _⟩) hS (fun H1 locs1 hP1 hS1 => ?_)
  · simp only [wsV, List.mem_append, List.mem_cons, List.not_mem_nil, or_false] at hw
    rcases hw with (rfl | rfl | rfl | rfl) | rfl | hw
    · exact ⟨hlink, xg_good hlink⟩
    · exact ⟨h1, xg_good h1⟩
    · exact ⟨h2, xg_good h2⟩
    · exact ⟨h3, xg_good h3⟩
    · exact ⟨h4, xg_good h4⟩
    · exact ⟨hw, xg_good hw⟩
  · rw [← xret_map]
    exact k p l e s m args below meth c D ct ad H1 locs1 ls hC hP1 hS1 hl
theorem X.callVN {host : String} (hM : XT μ' d' (.ref i :: As) f g (r, f', g')) (hd' : d' + 1 ≤ d) (hcw : xcv μ' n) (hsh : μ'.2.2.2.2 = μ.2.2.2.2) (hlink : Cond.methodLinkNest μ.1.cls idx μ'.1 host ∈ xn) (hs : μ.2.2.2.2[i]? = some (.inr (ci, sl))) (hcl : xcl ci μ'.1.cls T N ty) (hlen : As.length = n) (hst : st0 = As.reverse ++ .ref i :: st) (hcat : (st.map fun v => v.category).sum ≤ 8) (hd : decode μ.2.1 pc = .ok (.invokevirtual idx, 3)) (k : X μ d R (pc + 3) L (r.toList ++ st) f' g') : X μ d R pc L st0 f g := by
  intro p l e s m args below meth c D ct ad H locs ls hC hP hS hl
  obtain ⟨hx, hb, hml, hr, hlk, hown, hts, hK, hI, hO⟩ := id hC
  obtain ⟨h1, h2, h3, h4, h5, h6, h7, h8⟩ := hcw
  have hM1 := hM l D ct ad
  rw [hsh] at hM1
  subst hst
  refine x_call (va_runVN (As := As.map (xt ad)) (rest := st.map (xt ad)) (Ts := xg) (C := μ'.1.cls) ⟨hx, hb, hml, hown, hts⟩ hM1 ⟨va_cnB n hts (xg_goodIn h4) rfl rfl rfl (hK.2 _ hlink) (hts _ h3) ⟨h6, h7, h8⟩ ⟨hd', by show 8 + (μ'.2.2.1 + 11) + 64 * d' ≤ 64 * d; omega⟩, hts _ h1, hts _ h2⟩ ⟨xPc_blind, va_recv hK.1 hP hcl.1 (xw_at hs), fun U hU hW => xPc_at hK hI hO hP hS hU hW⟩ rfl (by simpa using hlen) hl.1 (by simp [xt]) (lv_room (xcat hcat)) hd ⟨Nat.zero_le _, Nat.zero_le _⟩) hS (fun H1 locs1 hP1 hS1 => ?_)
  rw [← xret_map]
  exact k p l e s m args below meth c D ct ad H1 locs1 ls hC hP1 hS1 hl
theorem X.callS (hM : XT μ' d' As f g (r, f', g')) (hd' : d' + 1 ≤ d) (hcw : xcs μ' n) (hsh : μ'.2.2.2.2 = μ.2.2.2.2) (hlink : Cond.methodLink μ.1.cls idx μ'.1 ∈ xg) (hlen : As.length = n) (hst : st0 = As.reverse ++ st) (hcat : (st.map fun v => v.category).sum ≤ 8) (hd : decode μ.2.1 pc = .ok (.invokestatic idx, 3)) (k : X μ d R (pc + 3) L (r.toList ++ st) f' g') : X μ d R pc L st0 f g := by
  intro p l e s m args below meth c D ct ad H locs ls hC hP hS hl
  obtain ⟨hx, hb, hml, hr, hlk, hown, hts, hK, hI, hO⟩ := id hC
  obtain ⟨h1, h3, h4, h5, h6, h7, h8⟩ := hcw
  have hM1 := hM l D ct ad
  rw [hsh] at hM1
  subst hst
  refine x_call (va_runS (As := As.map (xt ad)) (rest := st.map (xt ad)) (Ts := xg) ⟨hx, hb, hml, hown, hts⟩ hM1 (va_cwS n hts (fun w hw => ?_) rfl rfl rfl ⟨h6, h7, h8⟩ ⟨hd', by show 8 + (μ'.2.2.1 + 11) + 64 * d' ≤ 64 * d; omega⟩) ⟨xPc_blind, fun U hU hW => xPc_at hK hI hO hP hS hU hW⟩ rfl (by simpa using hlen) hl.1 (by simp) (lv_room (xcat hcat)) hd ⟨Nat.zero_le _, Nat.zero_le _⟩) hS (fun H1 locs1 hP1 hS1 => ?_)
  · simp only [va_wsS, List.mem_append, List.mem_cons, List.not_mem_nil, or_false] at hw
    rcases hw with (rfl | rfl | rfl) | rfl | hw
    · exact ⟨hlink, xg_good hlink⟩
    · exact ⟨h1, xg_good h1⟩
    · exact ⟨h3, xg_good h3⟩
    · exact ⟨h4, xg_good h4⟩
    · exact ⟨hw, xg_good hw⟩
  · rw [← xret_map]
    exact k p l e s m args below meth c D ct ad H1 locs1 ls hC hP1 hS1 hl
theorem X.callSN {host : String} (hM : XT μ' d' As f g (r, f', g')) (hd' : d' + 1 ≤ d) (hcw : xcs μ' n) (hsh : μ'.2.2.2.2 = μ.2.2.2.2) (hlink : Cond.methodLinkNest μ.1.cls idx μ'.1 host ∈ xn) (hlen : As.length = n) (hst : st0 = As.reverse ++ st) (hcat : (st.map fun v => v.category).sum ≤ 8) (hd : decode μ.2.1 pc = .ok (.invokestatic idx, 3)) (k : X μ d R (pc + 3) L (r.toList ++ st) f' g') : X μ d R pc L st0 f g := by
  intro p l e s m args below meth c D ct ad H locs ls hC hP hS hl
  obtain ⟨hx, hb, hml, hr, hlk, hown, hts, hK, hI, hO⟩ := id hC
  obtain ⟨h1, h3, h4, h5, h6, h7, h8⟩ := hcw
  have hM1 := hM l D ct ad
  rw [hsh] at hM1
  subst hst
  refine x_call (va_runSN (As := As.map (xt ad)) (rest := st.map (xt ad)) (Ts := xg) ⟨hx, hb, hml, hown, hts⟩ hM1 ⟨va_cnB n hts (xg_goodIn h4) rfl rfl rfl (hK.2 _ hlink) (hts _ h3) ⟨h6, h7, h8⟩ ⟨hd', by show 8 + (μ'.2.2.1 + 11) + 64 * d' ≤ 64 * d; omega⟩, hts _ h1, trivial⟩ ⟨xPc_blind, fun U hU hW => xPc_at hK hI hO hP hS hU hW⟩ rfl (by simpa using hlen) hl.1 (by simp) (lv_room (xcat hcat)) hd ⟨Nat.zero_le _, Nat.zero_le _⟩) hS (fun H1 locs1 hP1 hS1 => ?_)
  rw [← xret_map]
  exact k p l e s m args below meth c D ct ad H1 locs1 ls hC hP1 hS1 hl
end XR3
theorem xbind {α β : Type} {o : Option α} {k : α → Option β} {r : β} (h : o.bind k = some r) : ∃ q, o = some q ∧ k q = some r := by
  cases o with
  | none => cases h
  | some q => exact ⟨q, rfl, h⟩
/-- beyond a switch -/
theorem xsw_out {x : Int32} {lo hi : Int} (h : ∀ j : Int, lo ≤ j → j ≤ hi → x ≠ Int32.ofInt j) : x.toInt < lo ∨ hi < x.toInt := by
  by_cases h1 : x.toInt < lo
  · exact Or.inl h1
  · by_cases h2 : hi < x.toInt
    · exact Or.inr h2
    · exact absurd (Int32.ofInt_toInt x).symm (h _ (by omega) (by omega))
end
