section
-- ===== PART A: goes FIRST, ahead of the names: the tables' words, and 'selects' of the private methods out of them =====
/-- a private method of a class that the tables say can be made, by its rows of tables_1 -/
def lw_okq (q : MethodName × Nat) : Prop := (q.1.cls ≠ "java/lang/invoke/MethodHandle" ∧ q.1.cls ≠ "java/lang/invoke/VarHandle") ∧ Cond.instantiable q.1.cls q.2 ∈ tables_1 ∧ Cond.privateMethod q.1 ∈ tables_1 ∧ Cond.instanceMethod q.1 ∈ tables_1
theorem lw_p0 : lw_okq (⟨"GoldSheets$SectionText", "accepts", "(I)Z"⟩, 10) := ⟨⟨by decide +kernel, by decide +kernel⟩, List.mem_of_getElem? (i := 137) (by decide +kernel), List.mem_of_getElem? (i := 212) (by decide +kernel), List.mem_of_getElem? (i := 213) (by decide +kernel)⟩
theorem lw_p1 : lw_okq (⟨"GoldSheets$SectionText", "acceptsFirstDigit", "(I)Z"⟩, 10) := ⟨⟨by decide +kernel, by decide +kernel⟩, List.mem_of_getElem? (i := 137) (by decide +kernel), List.mem_of_getElem? (i := 216) (by decide +kernel), List.mem_of_getElem? (i := 217) (by decide +kernel)⟩
theorem lw_p2 : lw_okq (⟨"GoldSheets$SectionText", "acceptsInCubes", "(I)Z"⟩, 10) := ⟨⟨by decide +kernel, by decide +kernel⟩, List.mem_of_getElem? (i := 137) (by decide +kernel), List.mem_of_getElem? (i := 220) (by decide +kernel), List.mem_of_getElem? (i := 221) (by decide +kernel)⟩
theorem lw_p3 : lw_okq (⟨"GoldSheets$SectionText", "acceptsAt", "(I)Z"⟩, 10) := ⟨⟨by decide +kernel, by decide +kernel⟩, List.mem_of_getElem? (i := 137) (by decide +kernel), List.mem_of_getElem? (i := 227) (by decide +kernel), List.mem_of_getElem? (i := 228) (by decide +kernel)⟩
theorem lw_p4 : lw_okq (⟨"GoldSheets$SectionText", "acceptsDayDigit", "(I)Z"⟩, 10) := ⟨⟨by decide +kernel, by decide +kernel⟩, List.mem_of_getElem? (i := 137) (by decide +kernel), List.mem_of_getElem? (i := 231) (by decide +kernel), List.mem_of_getElem? (i := 232) (by decide +kernel)⟩
theorem lw_p5 : lw_okq (⟨"GoldSheets$SectionText", "acceptsInDay", "(I)Z"⟩, 10) := ⟨⟨by decide +kernel, by decide +kernel⟩, List.mem_of_getElem? (i := 137) (by decide +kernel), List.mem_of_getElem? (i := 235) (by decide +kernel), List.mem_of_getElem? (i := 236) (by decide +kernel)⟩
theorem lw_p6 : lw_okq (⟨"GoldSheets$SectionText", "keepPart", "()V"⟩, 10) := ⟨⟨by decide +kernel, by decide +kernel⟩, List.mem_of_getElem? (i := 137) (by decide +kernel), List.mem_of_getElem? (i := 239) (by decide +kernel), List.mem_of_getElem? (i := 240) (by decide +kernel)⟩
theorem lw_p7 : lw_okq (⟨"java/lang/Throwable", "fillInStackTrace", "(I)Ljava/lang/Throwable;"⟩, 6) := ⟨⟨by decide +kernel, by decide +kernel⟩, List.mem_of_getElem? (i := 310) (by decide +kernel), List.mem_of_getElem? (i := 308) (by decide +kernel), List.mem_of_getElem? (i := 309) (by decide +kernel)⟩
theorem lw_p8 : lw_okq (⟨"GoldSheets", "hashOfTrays", "(J)J"⟩, 5) := ⟨⟨by decide +kernel, by decide +kernel⟩, List.mem_of_getElem? (i := 17) (by decide +kernel), List.mem_of_getElem? (i := 366) (by decide +kernel), List.mem_of_getElem? (i := 367) (by decide +kernel)⟩
theorem lw_p9 : lw_okq (⟨"GoldSheets", "hashOfSections", "(J)J"⟩, 5) := ⟨⟨by decide +kernel, by decide +kernel⟩, List.mem_of_getElem? (i := 17) (by decide +kernel), List.mem_of_getElem? (i := 383) (by decide +kernel), List.mem_of_getElem? (i := 384) (by decide +kernel)⟩
theorem lw_p10 : lw_okq (⟨"GoldSheets", "foreseeSections", "()V"⟩, 5) := ⟨⟨by decide +kernel, by decide +kernel⟩, List.mem_of_getElem? (i := 17) (by decide +kernel), List.mem_of_getElem? (i := 387) (by decide +kernel), List.mem_of_getElem? (i := 388) (by decide +kernel)⟩
theorem lw_p11 : lw_okq (⟨"GoldSheets$Trays", "mostOf", "(I)I"⟩, 1) := ⟨⟨by decide +kernel, by decide +kernel⟩, List.mem_of_getElem? (i := 31) (by decide +kernel), List.mem_of_getElem? (i := 414) (by decide +kernel), List.mem_of_getElem? (i := 415) (by decide +kernel)⟩
theorem lw_p12 : lw_okq (⟨"GoldSheets$Trays", "lowestEmpty", "()I"⟩, 1) := ⟨⟨by decide +kernel, by decide +kernel⟩, List.mem_of_getElem? (i := 31) (by decide +kernel), List.mem_of_getElem? (i := 418) (by decide +kernel), List.mem_of_getElem? (i := 419) (by decide +kernel)⟩
theorem lw_p13 : lw_okq (⟨"GoldSheets$Dome", "canBeLaid", "(I)Z"⟩, 12) := ⟨⟨by decide +kernel, by decide +kernel⟩, List.mem_of_getElem? (i := 25) (by decide +kernel), List.mem_of_getElem? (i := 431) (by decide +kernel), List.mem_of_getElem? (i := 432) (by decide +kernel)⟩
theorem lw_p14 : lw_okq (⟨"GoldSheets$Dome", "layOnce", "(I)V"⟩, 12) := ⟨⟨by decide +kernel, by decide +kernel⟩, List.mem_of_getElem? (i := 25) (by decide +kernel), List.mem_of_getElem? (i := 443) (by decide +kernel), List.mem_of_getElem? (i := 444) (by decide +kernel)⟩
theorem lw_p15 : lw_okq (⟨"GoldSheets$Sections", "put", "(III)V"⟩, 3) := ⟨⟨by decide +kernel, by decide +kernel⟩, List.mem_of_getElem? (i := 42) (by decide +kernel), List.mem_of_getElem? (i := 461) (by decide +kernel), List.mem_of_getElem? (i := 462) (by decide +kernel)⟩
def lw_privs_1 : List (MethodName × Nat) := [(⟨"GoldSheets$SectionText", "accepts", "(I)Z"⟩, 10), (⟨"GoldSheets$SectionText", "acceptsFirstDigit", "(I)Z"⟩, 10), (⟨"GoldSheets$SectionText", "acceptsInCubes", "(I)Z"⟩, 10), (⟨"GoldSheets$SectionText", "acceptsAt", "(I)Z"⟩, 10), (⟨"GoldSheets$SectionText", "acceptsDayDigit", "(I)Z"⟩, 10), (⟨"GoldSheets$SectionText", "acceptsInDay", "(I)Z"⟩, 10), (⟨"GoldSheets$SectionText", "keepPart", "()V"⟩, 10), (⟨"java/lang/Throwable", "fillInStackTrace", "(I)Ljava/lang/Throwable;"⟩, 6), (⟨"GoldSheets", "hashOfTrays", "(J)J"⟩, 5), (⟨"GoldSheets", "hashOfSections", "(J)J"⟩, 5), (⟨"GoldSheets", "foreseeSections", "()V"⟩, 5), (⟨"GoldSheets$Trays", "mostOf", "(I)I"⟩, 1), (⟨"GoldSheets$Trays", "lowestEmpty", "()I"⟩, 1), (⟨"GoldSheets$Dome", "canBeLaid", "(I)Z"⟩, 12), (⟨"GoldSheets$Dome", "layOnce", "(I)V"⟩, 12), (⟨"GoldSheets$Sections", "put", "(III)V"⟩, 3)]
theorem lw_r1 : ∀ q ∈ lw_privs_1, lw_okq q := List.forall_mem_cons.mpr ⟨lw_p0, List.forall_mem_cons.mpr ⟨lw_p1, List.forall_mem_cons.mpr ⟨lw_p2, List.forall_mem_cons.mpr ⟨lw_p3, List.forall_mem_cons.mpr ⟨lw_p4, List.forall_mem_cons.mpr ⟨lw_p5, List.forall_mem_cons.mpr ⟨lw_p6, List.forall_mem_cons.mpr ⟨lw_p7, List.forall_mem_cons.mpr ⟨lw_p8, List.forall_mem_cons.mpr ⟨lw_p9, List.forall_mem_cons.mpr ⟨lw_p10, List.forall_mem_cons.mpr ⟨lw_p11, List.forall_mem_cons.mpr ⟨lw_p12, List.forall_mem_cons.mpr ⟨lw_p13, List.forall_mem_cons.mpr ⟨lw_p14, List.forall_mem_cons.mpr ⟨lw_p15, fun _ h => absurd h List.not_mem_nil⟩⟩⟩⟩⟩⟩⟩⟩⟩⟩⟩⟩⟩⟩⟩⟩
theorem lw_p16 : lw_okq (⟨"GoldSheets$Dome", "dismissDone", "()V"⟩, 12) := ⟨⟨by decide +kernel, by decide +kernel⟩, List.mem_of_getElem? (i := 25) (by decide +kernel), List.mem_of_getElem? (i := 468) (by decide +kernel), List.mem_of_getElem? (i := 469) (by decide +kernel)⟩
theorem lw_p17 : lw_okq (⟨"GoldSheets$Dome", "countDone", "(I)V"⟩, 12) := ⟨⟨by decide +kernel, by decide +kernel⟩, List.mem_of_getElem? (i := 25) (by decide +kernel), List.mem_of_getElem? (i := 472) (by decide +kernel), List.mem_of_getElem? (i := 473) (by decide +kernel)⟩
theorem lw_p18 : lw_okq (⟨"GoldSheets$Sections", "comesBefore", "(III)Z"⟩, 3) := ⟨⟨by decide +kernel, by decide +kernel⟩, List.mem_of_getElem? (i := 42) (by decide +kernel), List.mem_of_getElem? (i := 484) (by decide +kernel), List.mem_of_getElem? (i := 485) (by decide +kernel)⟩
theorem lw_p19 : lw_okq (⟨"GoldSheets$Sections", "swap", "(II)V"⟩, 3) := ⟨⟨by decide +kernel, by decide +kernel⟩, List.mem_of_getElem? (i := 42) (by decide +kernel), List.mem_of_getElem? (i := 488) (by decide +kernel), List.mem_of_getElem? (i := 489) (by decide +kernel)⟩
theorem lw_p20 : lw_okq (⟨"GoldSheets", "noteDone", "(I)V"⟩, 5) := ⟨⟨by decide +kernel, by decide +kernel⟩, List.mem_of_getElem? (i := 17) (by decide +kernel), List.mem_of_getElem? (i := 492) (by decide +kernel), List.mem_of_getElem? (i := 493) (by decide +kernel)⟩
theorem lw_p21 : lw_okq (⟨"GoldSheets", "hashOfTones", "(J)J"⟩, 5) := ⟨⟨by decide +kernel, by decide +kernel⟩, List.mem_of_getElem? (i := 17) (by decide +kernel), List.mem_of_getElem? (i := 510) (by decide +kernel), List.mem_of_getElem? (i := 511) (by decide +kernel)⟩
theorem lw_p22 : lw_okq (⟨"GoldSheets", "passTrial", "(II)V"⟩, 5) := ⟨⟨by decide +kernel, by decide +kernel⟩, List.mem_of_getElem? (i := 17) (by decide +kernel), List.mem_of_getElem? (i := 547) (by decide +kernel), List.mem_of_getElem? (i := 548) (by decide +kernel)⟩
theorem lw_p23 : lw_okq (⟨"GoldSheets", "hashOfText", "(J)J"⟩, 5) := ⟨⟨by decide +kernel, by decide +kernel⟩, List.mem_of_getElem? (i := 17) (by decide +kernel), List.mem_of_getElem? (i := 566) (by decide +kernel), List.mem_of_getElem? (i := 567) (by decide +kernel)⟩
theorem lw_p24 : lw_okq (⟨"GoldSheets$History", "dropOldest", "()V"⟩, 2) := ⟨⟨by decide +kernel, by decide +kernel⟩, List.mem_of_getElem? (i := 120) (by decide +kernel), List.mem_of_getElem? (i := 600) (by decide +kernel), List.mem_of_getElem? (i := 601) (by decide +kernel)⟩
theorem lw_p25 : lw_okq (⟨"GoldSheets$History", "slotAt", "(I)LGoldSheets$Dome;"⟩, 2) := ⟨⟨by decide +kernel, by decide +kernel⟩, List.mem_of_getElem? (i := 120) (by decide +kernel), List.mem_of_getElem? (i := 604) (by decide +kernel), List.mem_of_getElem? (i := 605) (by decide +kernel)⟩
theorem lw_p26 : lw_okq (⟨"GoldSheets", "requireSection", "(I)I"⟩, 5) := ⟨⟨by decide +kernel, by decide +kernel⟩, List.mem_of_getElem? (i := 17) (by decide +kernel), List.mem_of_getElem? (i := 682) (by decide +kernel), List.mem_of_getElem? (i := 683) (by decide +kernel)⟩
theorem lw_p27 : lw_okq (⟨"GoldSheetsModel", "save", "()V"⟩, 14) := ⟨⟨by decide +kernel, by decide +kernel⟩, List.mem_of_getElem? (i := 792) (by decide +kernel), List.mem_of_getElem? (i := 859) (by decide +kernel), List.mem_of_getElem? (i := 860) (by decide +kernel)⟩
theorem lw_p28 : lw_okq (⟨"GoldSheetsModel", "room", "(I)I"⟩, 14) := ⟨⟨by decide +kernel, by decide +kernel⟩, List.mem_of_getElem? (i := 792) (by decide +kernel), List.mem_of_getElem? (i := 870) (by decide +kernel), List.mem_of_getElem? (i := 871) (by decide +kernel)⟩
theorem lw_p29 : lw_okq (⟨"GoldSheetsModel", "inTray", "(I)I"⟩, 14) := ⟨⟨by decide +kernel, by decide +kernel⟩, List.mem_of_getElem? (i := 792) (by decide +kernel), List.mem_of_getElem? (i := 874) (by decide +kernel), List.mem_of_getElem? (i := 875) (by decide +kernel)⟩
theorem lw_p30 : lw_okq (⟨"GoldSheetsModel", "cubes", "(II)I"⟩, 14) := ⟨⟨by decide +kernel, by decide +kernel⟩, List.mem_of_getElem? (i := 792) (by decide +kernel), List.mem_of_getElem? (i := 878) (by decide +kernel), List.mem_of_getElem? (i := 879) (by decide +kernel)⟩
theorem lw_p31 : lw_okq (⟨"GoldSheetsModel", "pour", "(III)I"⟩, 14) := ⟨⟨by decide +kernel, by decide +kernel⟩, List.mem_of_getElem? (i := 792) (by decide +kernel), List.mem_of_getElem? (i := 886) (by decide +kernel), List.mem_of_getElem? (i := 887) (by decide +kernel)⟩
def lw_privs_2 : List (MethodName × Nat) := [(⟨"GoldSheets$Dome", "dismissDone", "()V"⟩, 12), (⟨"GoldSheets$Dome", "countDone", "(I)V"⟩, 12), (⟨"GoldSheets$Sections", "comesBefore", "(III)Z"⟩, 3), (⟨"GoldSheets$Sections", "swap", "(II)V"⟩, 3), (⟨"GoldSheets", "noteDone", "(I)V"⟩, 5), (⟨"GoldSheets", "hashOfTones", "(J)J"⟩, 5), (⟨"GoldSheets", "passTrial", "(II)V"⟩, 5), (⟨"GoldSheets", "hashOfText", "(J)J"⟩, 5), (⟨"GoldSheets$History", "dropOldest", "()V"⟩, 2), (⟨"GoldSheets$History", "slotAt", "(I)LGoldSheets$Dome;"⟩, 2), (⟨"GoldSheets", "requireSection", "(I)I"⟩, 5), (⟨"GoldSheetsModel", "save", "()V"⟩, 14), (⟨"GoldSheetsModel", "room", "(I)I"⟩, 14), (⟨"GoldSheetsModel", "inTray", "(I)I"⟩, 14), (⟨"GoldSheetsModel", "cubes", "(II)I"⟩, 14), (⟨"GoldSheetsModel", "pour", "(III)I"⟩, 14)]
theorem lw_r2 : ∀ q ∈ lw_privs_2, lw_okq q := List.forall_mem_cons.mpr ⟨lw_p16, List.forall_mem_cons.mpr ⟨lw_p17, List.forall_mem_cons.mpr ⟨lw_p18, List.forall_mem_cons.mpr ⟨lw_p19, List.forall_mem_cons.mpr ⟨lw_p20, List.forall_mem_cons.mpr ⟨lw_p21, List.forall_mem_cons.mpr ⟨lw_p22, List.forall_mem_cons.mpr ⟨lw_p23, List.forall_mem_cons.mpr ⟨lw_p24, List.forall_mem_cons.mpr ⟨lw_p25, List.forall_mem_cons.mpr ⟨lw_p26, List.forall_mem_cons.mpr ⟨lw_p27, List.forall_mem_cons.mpr ⟨lw_p28, List.forall_mem_cons.mpr ⟨lw_p29, List.forall_mem_cons.mpr ⟨lw_p30, List.forall_mem_cons.mpr ⟨lw_p31, fun _ h => absurd h List.not_mem_nil⟩⟩⟩⟩⟩⟩⟩⟩⟩⟩⟩⟩⟩⟩⟩⟩
theorem lw_p32 : lw_okq (⟨"GoldSheetsModel", "sectionAdded", "(III)I"⟩, 14) := ⟨⟨by decide +kernel, by decide +kernel⟩, List.mem_of_getElem? (i := 792) (by decide +kernel), List.mem_of_getElem? (i := 898) (by decide +kernel), List.mem_of_getElem? (i := 899) (by decide +kernel)⟩
theorem lw_p33 : lw_okq (⟨"GoldSheetsModel", "lay", "(III)V"⟩, 14) := ⟨⟨by decide +kernel, by decide +kernel⟩, List.mem_of_getElem? (i := 792) (by decide +kernel), List.mem_of_getElem? (i := 902) (by decide +kernel), List.mem_of_getElem? (i := 903) (by decide +kernel)⟩
theorem lw_p34 : lw_okq (⟨"GoldSheetsModel", "placeOf", "(I)I"⟩, 14) := ⟨⟨by decide +kernel, by decide +kernel⟩, List.mem_of_getElem? (i := 792) (by decide +kernel), List.mem_of_getElem? (i := 910) (by decide +kernel), List.mem_of_getElem? (i := 911) (by decide +kernel)⟩
theorem lw_p35 : lw_okq (⟨"GoldSheetsModel", "its", "(II)I"⟩, 14) := ⟨⟨by decide +kernel, by decide +kernel⟩, List.mem_of_getElem? (i := 792) (by decide +kernel), List.mem_of_getElem? (i := 914) (by decide +kernel), List.mem_of_getElem? (i := 915) (by decide +kernel)⟩
theorem lw_p36 : lw_okq (⟨"GoldSheetsModel", "takeOut", "(I)V"⟩, 14) := ⟨⟨by decide +kernel, by decide +kernel⟩, List.mem_of_getElem? (i := 792) (by decide +kernel), List.mem_of_getElem? (i := 918) (by decide +kernel), List.mem_of_getElem? (i := 919) (by decide +kernel)⟩
theorem lw_p37 : lw_okq (⟨"GoldSheetsModel", "days", "(I)I"⟩, 14) := ⟨⟨by decide +kernel, by decide +kernel⟩, List.mem_of_getElem? (i := 792) (by decide +kernel), List.mem_of_getElem? (i := 933) (by decide +kernel), List.mem_of_getElem? (i := 934) (by decide +kernel)⟩
theorem lw_p38 : lw_okq (⟨"GoldSheetsModel", "work", "()I"⟩, 14) := ⟨⟨by decide +kernel, by decide +kernel⟩, List.mem_of_getElem? (i := 792) (by decide +kernel), List.mem_of_getElem? (i := 937) (by decide +kernel), List.mem_of_getElem? (i := 938) (by decide +kernel)⟩
theorem lw_p39 : lw_okq (⟨"GoldSheetsModel", "tonesIn", "(I)I"⟩, 14) := ⟨⟨by decide +kernel, by decide +kernel⟩, List.mem_of_getElem? (i := 792) (by decide +kernel), List.mem_of_getElem? (i := 941) (by decide +kernel), List.mem_of_getElem? (i := 942) (by decide +kernel)⟩
theorem lw_p40 : lw_okq (⟨"GoldSheetsModel", "sort", "(I)V"⟩, 14) := ⟨⟨by decide +kernel, by decide +kernel⟩, List.mem_of_getElem? (i := 792) (by decide +kernel), List.mem_of_getElem? (i := 945) (by decide +kernel), List.mem_of_getElem? (i := 946) (by decide +kernel)⟩
theorem lw_p41 : lw_okq (⟨"GoldSheetsModel", "emptyTray", "()I"⟩, 14) := ⟨⟨by decide +kernel, by decide +kernel⟩, List.mem_of_getElem? (i := 792) (by decide +kernel), List.mem_of_getElem? (i := 949) (by decide +kernel), List.mem_of_getElem? (i := 950) (by decide +kernel)⟩
theorem lw_p42 : lw_okq (⟨"GoldSheetsModel", "layOrder", "()V"⟩, 14) := ⟨⟨by decide +kernel, by decide +kernel⟩, List.mem_of_getElem? (i := 792) (by decide +kernel), List.mem_of_getElem? (i := 953) (by decide +kernel), List.mem_of_getElem? (i := 954) (by decide +kernel)⟩
theorem lw_p43 : lw_okq (⟨"GoldSheetsModel", "isAhead", "(II)Z"⟩, 14) := ⟨⟨by decide +kernel, by decide +kernel⟩, List.mem_of_getElem? (i := 792) (by decide +kernel), List.mem_of_getElem? (i := 957) (by decide +kernel), List.mem_of_getElem? (i := 958) (by decide +kernel)⟩
theorem lw_p44 : lw_okq (⟨"GoldSheetsModel", "workOn", "(I)I"⟩, 14) := ⟨⟨by decide +kernel, by decide +kernel⟩, List.mem_of_getElem? (i := 792) (by decide +kernel), List.mem_of_getElem? (i := 961) (by decide +kernel), List.mem_of_getElem? (i := 962) (by decide +kernel)⟩
theorem lw_p45 : lw_okq (⟨"GoldSheetsModel", "inTrays", "(IZ)I"⟩, 14) := ⟨⟨by decide +kernel, by decide +kernel⟩, List.mem_of_getElem? (i := 792) (by decide +kernel), List.mem_of_getElem? (i := 965) (by decide +kernel), List.mem_of_getElem? (i := 966) (by decide +kernel)⟩
theorem lw_p46 : lw_okq (⟨"GoldSheetsModel", "layCubes", "(I)I"⟩, 14) := ⟨⟨by decide +kernel, by decide +kernel⟩, List.mem_of_getElem? (i := 792) (by decide +kernel), List.mem_of_getElem? (i := 969) (by decide +kernel), List.mem_of_getElem? (i := 970) (by decide +kernel)⟩
theorem lw_p47 : lw_okq (⟨"GoldSheetsModel", "takenFor", "(I)I"⟩, 14) := ⟨⟨by decide +kernel, by decide +kernel⟩, List.mem_of_getElem? (i := 792) (by decide +kernel), List.mem_of_getElem? (i := 973) (by decide +kernel), List.mem_of_getElem? (i := 974) (by decide +kernel)⟩
def lw_privs_3 : List (MethodName × Nat) := [(⟨"GoldSheetsModel", "sectionAdded", "(III)I"⟩, 14), (⟨"GoldSheetsModel", "lay", "(III)V"⟩, 14), (⟨"GoldSheetsModel", "placeOf", "(I)I"⟩, 14), (⟨"GoldSheetsModel", "its", "(II)I"⟩, 14), (⟨"GoldSheetsModel", "takeOut", "(I)V"⟩, 14), (⟨"GoldSheetsModel", "days", "(I)I"⟩, 14), (⟨"GoldSheetsModel", "work", "()I"⟩, 14), (⟨"GoldSheetsModel", "tonesIn", "(I)I"⟩, 14), (⟨"GoldSheetsModel", "sort", "(I)V"⟩, 14), (⟨"GoldSheetsModel", "emptyTray", "()I"⟩, 14), (⟨"GoldSheetsModel", "layOrder", "()V"⟩, 14), (⟨"GoldSheetsModel", "isAhead", "(II)Z"⟩, 14), (⟨"GoldSheetsModel", "workOn", "(I)I"⟩, 14), (⟨"GoldSheetsModel", "inTrays", "(IZ)I"⟩, 14), (⟨"GoldSheetsModel", "layCubes", "(I)I"⟩, 14), (⟨"GoldSheetsModel", "takenFor", "(I)I"⟩, 14)]
theorem lw_r3 : ∀ q ∈ lw_privs_3, lw_okq q := List.forall_mem_cons.mpr ⟨lw_p32, List.forall_mem_cons.mpr ⟨lw_p33, List.forall_mem_cons.mpr ⟨lw_p34, List.forall_mem_cons.mpr ⟨lw_p35, List.forall_mem_cons.mpr ⟨lw_p36, List.forall_mem_cons.mpr ⟨lw_p37, List.forall_mem_cons.mpr ⟨lw_p38, List.forall_mem_cons.mpr ⟨lw_p39, List.forall_mem_cons.mpr ⟨lw_p40, List.forall_mem_cons.mpr ⟨lw_p41, List.forall_mem_cons.mpr ⟨lw_p42, List.forall_mem_cons.mpr ⟨lw_p43, List.forall_mem_cons.mpr ⟨lw_p44, List.forall_mem_cons.mpr ⟨lw_p45, List.forall_mem_cons.mpr ⟨lw_p46, List.forall_mem_cons.mpr ⟨lw_p47, fun _ h => absurd h List.not_mem_nil⟩⟩⟩⟩⟩⟩⟩⟩⟩⟩⟩⟩⟩⟩⟩⟩
theorem lw_p48 : lw_okq (⟨"GoldSheetsModel", "broken", "(I)I"⟩, 14) := ⟨⟨by decide +kernel, by decide +kernel⟩, List.mem_of_getElem? (i := 792) (by decide +kernel), List.mem_of_getElem? (i := 977) (by decide +kernel), List.mem_of_getElem? (i := 978) (by decide +kernel)⟩
theorem lw_p49 : lw_okq (⟨"GoldSheetsModel", "endDone", "()V"⟩, 14) := ⟨⟨by decide +kernel, by decide +kernel⟩, List.mem_of_getElem? (i := 792) (by decide +kernel), List.mem_of_getElem? (i := 981) (by decide +kernel), List.mem_of_getElem? (i := 982) (by decide +kernel)⟩
theorem lw_p50 : lw_okq (⟨"GoldSheetsModel", "readBuffer", "()I"⟩, 14) := ⟨⟨by decide +kernel, by decide +kernel⟩, List.mem_of_getElem? (i := 792) (by decide +kernel), List.mem_of_getElem? (i := 997) (by decide +kernel), List.mem_of_getElem? (i := 998) (by decide +kernel)⟩
theorem lw_p51 : lw_okq (⟨"GoldSheetsModel", "readPart", "()V"⟩, 14) := ⟨⟨by decide +kernel, by decide +kernel⟩, List.mem_of_getElem? (i := 792) (by decide +kernel), List.mem_of_getElem? (i := 1001) (by decide +kernel), List.mem_of_getElem? (i := 1002) (by decide +kernel)⟩
theorem lw_p52 : lw_okq (⟨"GoldSheetsModel", "number", "(II)I"⟩, 14) := ⟨⟨by decide +kernel, by decide +kernel⟩, List.mem_of_getElem? (i := 792) (by decide +kernel), List.mem_of_getElem? (i := 1005) (by decide +kernel), List.mem_of_getElem? (i := 1006) (by decide +kernel)⟩
theorem lw_p53 : lw_okq (⟨"GoldSheetsModel", "letter", "()I"⟩, 14) := ⟨⟨by decide +kernel, by decide +kernel⟩, List.mem_of_getElem? (i := 792) (by decide +kernel), List.mem_of_getElem? (i := 1009) (by decide +kernel), List.mem_of_getElem? (i := 1010) (by decide +kernel)⟩
theorem lw_p54 : lw_okq (⟨"GoldSheetsModel", "wants", "(Z)V"⟩, 14) := ⟨⟨by decide +kernel, by decide +kernel⟩, List.mem_of_getElem? (i := 792) (by decide +kernel), List.mem_of_getElem? (i := 1013) (by decide +kernel), List.mem_of_getElem? (i := 1014) (by decide +kernel)⟩
theorem lw_p55 : lw_okq (⟨"GoldSheetsModel", "toldSection", "(II)I"⟩, 14) := ⟨⟨by decide +kernel, by decide +kernel⟩, List.mem_of_getElem? (i := 792) (by decide +kernel), List.mem_of_getElem? (i := 1029) (by decide +kernel), List.mem_of_getElem? (i := 1030) (by decide +kernel)⟩
theorem lw_p56 : lw_okq (⟨"GoldSheetsModel", "toldTone", "(II)I"⟩, 14) := ⟨⟨by decide +kernel, by decide +kernel⟩, List.mem_of_getElem? (i := 792) (by decide +kernel), List.mem_of_getElem? (i := 1037) (by decide +kernel), List.mem_of_getElem? (i := 1038) (by decide +kernel)⟩
theorem lw_p57 : lw_okq (⟨"GoldSheetsModel", "wanted", "(I)I"⟩, 14) := ⟨⟨by decide +kernel, by decide +kernel⟩, List.mem_of_getElem? (i := 792) (by decide +kernel), List.mem_of_getElem? (i := 1041) (by decide +kernel), List.mem_of_getElem? (i := 1042) (by decide +kernel)⟩
theorem lw_p58 : lw_okq (⟨"GoldSheetsModel", "counted", "(I)I"⟩, 14) := ⟨⟨by decide +kernel, by decide +kernel⟩, List.mem_of_getElem? (i := 792) (by decide +kernel), List.mem_of_getElem? (i := 1049) (by decide +kernel), List.mem_of_getElem? (i := 1050) (by decide +kernel)⟩
theorem lw_p59 : lw_okq (⟨"GoldSheetsModel", "trays", "(Z)I"⟩, 14) := ⟨⟨by decide +kernel, by decide +kernel⟩, List.mem_of_getElem? (i := 792) (by decide +kernel), List.mem_of_getElem? (i := 1053) (by decide +kernel), List.mem_of_getElem? (i := 1054) (by decide +kernel)⟩
theorem lw_p60 : lw_okq (⟨"GoldSheetsModel", "allOf", "(I)I"⟩, 14) := ⟨⟨by decide +kernel, by decide +kernel⟩, List.mem_of_getElem? (i := 792) (by decide +kernel), List.mem_of_getElem? (i := 1057) (by decide +kernel), List.mem_of_getElem? (i := 1058) (by decide +kernel)⟩
theorem lw_p61 : lw_okq (⟨"GoldSheetsModel", "lacks", "(I)I"⟩, 14) := ⟨⟨by decide +kernel, by decide +kernel⟩, List.mem_of_getElem? (i := 792) (by decide +kernel), List.mem_of_getElem? (i := 1073) (by decide +kernel), List.mem_of_getElem? (i := 1074) (by decide +kernel)⟩
theorem lw_p62 : lw_okq (⟨"GoldSheetsModel", "wouldPass", "(II)I"⟩, 14) := ⟨⟨by decide +kernel, by decide +kernel⟩, List.mem_of_getElem? (i := 792) (by decide +kernel), List.mem_of_getElem? (i := 1081) (by decide +kernel), List.mem_of_getElem? (i := 1082) (by decide +kernel)⟩
theorem lw_p63 : lw_okq (⟨"GoldSheetsModel", "putAside", "()V"⟩, 14) := ⟨⟨by decide +kernel, by decide +kernel⟩, List.mem_of_getElem? (i := 792) (by decide +kernel), List.mem_of_getElem? (i := 1085) (by decide +kernel), List.mem_of_getElem? (i := 1086) (by decide +kernel)⟩
def lw_privs_4 : List (MethodName × Nat) := [(⟨"GoldSheetsModel", "broken", "(I)I"⟩, 14), (⟨"GoldSheetsModel", "endDone", "()V"⟩, 14), (⟨"GoldSheetsModel", "readBuffer", "()I"⟩, 14), (⟨"GoldSheetsModel", "readPart", "()V"⟩, 14), (⟨"GoldSheetsModel", "number", "(II)I"⟩, 14), (⟨"GoldSheetsModel", "letter", "()I"⟩, 14), (⟨"GoldSheetsModel", "wants", "(Z)V"⟩, 14), (⟨"GoldSheetsModel", "toldSection", "(II)I"⟩, 14), (⟨"GoldSheetsModel", "toldTone", "(II)I"⟩, 14), (⟨"GoldSheetsModel", "wanted", "(I)I"⟩, 14), (⟨"GoldSheetsModel", "counted", "(I)I"⟩, 14), (⟨"GoldSheetsModel", "trays", "(Z)I"⟩, 14), (⟨"GoldSheetsModel", "allOf", "(I)I"⟩, 14), (⟨"GoldSheetsModel", "lacks", "(I)I"⟩, 14), (⟨"GoldSheetsModel", "wouldPass", "(II)I"⟩, 14), (⟨"GoldSheetsModel", "putAside", "()V"⟩, 14)]
theorem lw_r4 : ∀ q ∈ lw_privs_4, lw_okq q := List.forall_mem_cons.mpr ⟨lw_p48, List.forall_mem_cons.mpr ⟨lw_p49, List.forall_mem_cons.mpr ⟨lw_p50, List.forall_mem_cons.mpr ⟨lw_p51, List.forall_mem_cons.mpr ⟨lw_p52, List.forall_mem_cons.mpr ⟨lw_p53, List.forall_mem_cons.mpr ⟨lw_p54, List.forall_mem_cons.mpr ⟨lw_p55, List.forall_mem_cons.mpr ⟨lw_p56, List.forall_mem_cons.mpr ⟨lw_p57, List.forall_mem_cons.mpr ⟨lw_p58, List.forall_mem_cons.mpr ⟨lw_p59, List.forall_mem_cons.mpr ⟨lw_p60, List.forall_mem_cons.mpr ⟨lw_p61, List.forall_mem_cons.mpr ⟨lw_p62, List.forall_mem_cons.mpr ⟨lw_p63, fun _ h => absurd h List.not_mem_nil⟩⟩⟩⟩⟩⟩⟩⟩⟩⟩⟩⟩⟩⟩⟩⟩
theorem lw_p64 : lw_okq (⟨"GoldSheetsModel", "bringBack", "()V"⟩, 14) := ⟨⟨by decide +kernel, by decide +kernel⟩, List.mem_of_getElem? (i := 792) (by decide +kernel), List.mem_of_getElem? (i := 1089) (by decide +kernel), List.mem_of_getElem? (i := 1090) (by decide +kernel)⟩
theorem lw_p65 : lw_okq (⟨"GoldSheetsModel", "daysTo", "(I)I"⟩, 14) := ⟨⟨by decide +kernel, by decide +kernel⟩, List.mem_of_getElem? (i := 792) (by decide +kernel), List.mem_of_getElem? (i := 1097) (by decide +kernel), List.mem_of_getElem? (i := 1098) (by decide +kernel)⟩
theorem lw_p66 : lw_okq (⟨"GoldSheetsModel", "bestFor", "(I)I"⟩, 14) := ⟨⟨by decide +kernel, by decide +kernel⟩, List.mem_of_getElem? (i := 792) (by decide +kernel), List.mem_of_getElem? (i := 1105) (by decide +kernel), List.mem_of_getElem? (i := 1106) (by decide +kernel)⟩
theorem lw_p67 : lw_okq (⟨"GoldSheetsModel", "share", "()D"⟩, 14) := ⟨⟨by decide +kernel, by decide +kernel⟩, List.mem_of_getElem? (i := 792) (by decide +kernel), List.mem_of_getElem? (i := 1113) (by decide +kernel), List.mem_of_getElem? (i := 1114) (by decide +kernel)⟩
theorem lw_p68 : lw_okq (⟨"GoldSheetsModel", "mix", "(J)V"⟩, 14) := ⟨⟨by decide +kernel, by decide +kernel⟩, List.mem_of_getElem? (i := 792) (by decide +kernel), List.mem_of_getElem? (i := 1122) (by decide +kernel), List.mem_of_getElem? (i := 1123) (by decide +kernel)⟩
theorem lw_p69 : lw_okq (⟨"GoldSheetsModel", "mixSections", "()V"⟩, 14) := ⟨⟨by decide +kernel, by decide +kernel⟩, List.mem_of_getElem? (i := 792) (by decide +kernel), List.mem_of_getElem? (i := 1127) (by decide +kernel), List.mem_of_getElem? (i := 1128) (by decide +kernel)⟩
def lw_privs_5 : List (MethodName × Nat) := [(⟨"GoldSheetsModel", "bringBack", "()V"⟩, 14), (⟨"GoldSheetsModel", "daysTo", "(I)I"⟩, 14), (⟨"GoldSheetsModel", "bestFor", "(I)I"⟩, 14), (⟨"GoldSheetsModel", "share", "()D"⟩, 14), (⟨"GoldSheetsModel", "mix", "(J)V"⟩, 14), (⟨"GoldSheetsModel", "mixSections", "()V"⟩, 14)]
theorem lw_r5 : ∀ q ∈ lw_privs_5, lw_okq q := List.forall_mem_cons.mpr ⟨lw_p64, List.forall_mem_cons.mpr ⟨lw_p65, List.forall_mem_cons.mpr ⟨lw_p66, List.forall_mem_cons.mpr ⟨lw_p67, List.forall_mem_cons.mpr ⟨lw_p68, List.forall_mem_cons.mpr ⟨lw_p69, fun _ h => absurd h List.not_mem_nil⟩⟩⟩⟩⟩⟩
def lw_privs : List (MethodName × Nat) := lw_privs_1 ++ (lw_privs_2 ++ (lw_privs_3 ++ (lw_privs_4 ++ (lw_privs_5))))
def lw_tbl : List Cond := k2_sels lw_privs ++ tables_1
theorem lw_privs_ok : ∀ q ∈ lw_privs, lw_okq q := by
  show ∀ q ∈ lw_privs_1 ++ (lw_privs_2 ++ (lw_privs_3 ++ (lw_privs_4 ++ (lw_privs_5)))), lw_okq q
  exact List.forall_mem_append.mpr ⟨lw_r1, List.forall_mem_append.mpr ⟨lw_r2, List.forall_mem_append.mpr ⟨lw_r3, List.forall_mem_append.mpr ⟨lw_r4, lw_r5⟩⟩⟩⟩
/-- the streams that the claim lets the run draw from -/
abbrev lw_cs : List Choice := [Jvm.Choice.named "NaN.bits"]
theorem lw_bits : nanBits ∈ lw_cs := by first | decide | exact List.mem_cons_self | simp [lw_cs, nanBits]
-- ===== end of PART A; then your names; then what follows =====
end
section
/-! ===== BEGIN words of one list among another's, by their places ===== -/
theorem goodIn_r {big : List Cond} (ws : List Cond) (ps : List Nat) (hp : ws = ps.filterMap (fun i => big[i]?)) (h : ws.all goodWord = true) : GoodIn big ws := by
  intro w hw
  have h1 := List.all_eq_true.mp h w hw
  rw [hp] at hw
  obtain ⟨i, -, hi⟩ := List.mem_filterMap.mp hw
  have hm : w ∈ big := by first | exact List.mem_of_getElem? hi | exact List.getElem?_mem hi
  exact ⟨hm, good_of_word h1⟩
theorem goodIn_app {big a b : List Cond} (ha : GoodIn big a) (hb : GoodIn big b) : GoodIn big (a ++ b) := fun w h => (List.mem_append.mp h).elim (ha w) (hb w)
theorem goodIn_ca {big a b : List Cond} {c : Cond} (ha : GoodIn big (c :: a)) (hb : GoodIn big b) : GoodIn big (c :: (a ++ b)) := fun w h => (List.mem_cons.mp h).elim (fun e => ha w (List.mem_cons.mpr (Or.inl e))) (fun h => (List.mem_append.mp h).elim (fun h => ha w (List.mem_cons.mpr (Or.inr h))) (hb w))
theorem goodIn_sub {big ws : List Cond} (hm : ∀ w ∈ ws, w ∈ big) (h : ws.all goodWord = true) : GoodIn big ws := fun w hw => ⟨hm w hw, good_of_word (List.all_eq_true.mp h w hw)⟩
/-! ===== END ===== -/
/-! ===== BEGIN exceptions that leave a method, and their catching by the caller (launches without stack traces) ===== -/
section VXA
/-! The laws vx_back, vx_callV, vx_callS, vx_callSW, vx_throw0, vx_throwS follow proofs of the library, with one case more: JvmDerived/Free/Laws.lean (Back.of_free), Shelf42/LK1.lean (callV, callS), Shelf/KitTraced.lean (throwNew0V, throwNewS). -/
/-- where a method has thrown q: the class by its name, the cell, what was written, the world -/
def vx_T (XC : String → State → State → Prop) (st : State) (q : Addr) (t : State) (mc ms : Nat) (free : Addr → Prop) : Prop :=
  ∃ (E : String) (ce : Cell) (L : List Loc), XC E st t ∧ t.heap[q]? = some ce ∧ ce.vm = .none ∧ st.vm.findClass E = some ce.cls ∧ st.WarmedH t.vm ∧ st.sameButNew ({ t with vm := st.vm } : State) L mc ms ∧ ∀ z ∈ L, free z.base
def vx_Q (Qc : Array Value → State → Outcome → State → Prop) (XC : String → State → State → Prop) (mc ms : Nat) (free : Addr → Prop) : Array Value → State → Outcome → State → Prop := fun a st o t =>
  (Qc a st o t ∧ ∃ L, FrameEnd st o t L mc ms ∧ ∀ q ∈ L, free q.base) ∨ ∃ q, o = .threw q ∧ vx_T XC st q t mc ms free
/-- a callee that returns or throws -/
def vx_Met (l : Launch) (y : MethodName) (ws : List Cond) (rm : Room) (Pc : Array Value → State → Prop) (Qc : Array Value → State → Outcome → State → Prop) (XC : String → State → State → Prop) (mc ms : Nat) (free : Addr → Prop) : Prop :=
  MetFree l y (headSpec ws rm) Pc (fun _ _ _ _ _ => True) (vx_Q Qc XC mc ms free)
def vx_Post (XC : String → State → State → Prop) (mc ms : Nat) (free : Addr → Prop) : Pt → Array Value → Addr → Pt → Prop := fun A a q B =>
  ∃ (g : JFrame) (mk : MethodId) (t : State) (L : List Loc) (E : String) (ce : Cell), B.U.heap = t.heap ∧ B.U.vm = t.vm ∧ XC E (A.U.calling g mk a) t ∧ t.heap[q]? = some ce ∧ ce.vm = .none ∧ A.U.vm.findClass E = some ce.cls ∧ B.locs = A.locs ++ L ∧ (∀ z ∈ L, free z.base) ∧ B.cells = A.cells + mc ∧ B.slots = A.slots + ms
def vx_Back (l : Launch) (R : Room) (p : Program) (e : Env) (below : List Frame) (s : State) (sargs : Array Value) (y : MethodName) (len W9 : Nat)
    (Pre : Pt → Array Value → Prop) (Post : Pt → Array Value → Option Value → Pt → Prop) (PostX : Pt → Array Value → Addr → Pt → Prop) : Prop :=
  ∀ (m : MethodId) (meth : Method) (c : Code) (A : Pt) (g : JFrame) (ig : Instr) (mk : MethodId) (a : Array Value),
    Stand p l e R s m sargs below meth c A.U A.locs A.cells A.slots → g.method = m → g.locals.size = c.maxLocals → decode c.code g.pc = .ok (ig, len) →
    2 * g.monitorRoom + (g.stack.map fun v => v.category).sum ≤ W9 → A.U.methodNamed? y = some mk → Pre A a →
    (∃ (v : Option Value) (B : Pt), Stand p l e R s m sargs below meth c B.U B.locs B.cells B.slots ∧ Post A a v B ∧
      Steps p.tables e below (doInvoke e (A.U.setTop g) [] mk a).1 (B.U.setTop { g with pc := g.pc + len, stack := v.toList ++ g.stack })) ∨
    (∃ (q : Addr) (B : Pt), Stand p l e R s m sargs below meth c B.U B.locs B.cells B.slots ∧ PostX A a q B ∧
      Steps p.tables e below (doInvoke e (A.U.setTop g) [] mk a).1 ((B.U.setTop g).pushFrame (.throwing q)))
section Payer
variable {l : Launch} {R : Room} {p : Program} {e : Env} {below : List Frame} {s : State} {sargs : Array Value} {y : MethodName} {len W9 : Nat}
theorem vx_back {ws : List Cond} {rm : Room} {Pc : Array Value → State → Prop} {Qc : Array Value → State → Outcome → State → Prop} {XC : String → State → State → Prop} {mc ms : Nat} {free : Addr → Prop} {bytes : ByteArray} {maxL : Nat} {ret : Option FieldType}
    (hM : vx_Met l y ws rm Pc Qc XC mc ms free) (hblind : FrameBlind Pc) (hrc : rm.cells = mc) (hrs : rm.slots = ms)
    (hframes : rm.frames + 1 ≤ R.frames) (hlocals : W9 + (maxL + 11) + rm.locals ≤ R.locals)
    (hws : ∀ w ∈ ws, ∀ a' U, s.WarmedH U.vm → w.before a' U = true) (hcode : Cond.code y bytes maxL ret ∈ ws) (hinit : ∀ a' U, s.WarmedH U.vm → (Cond.initialized y.cls).before a' U = true) :
    vx_Back l R p e below s sargs y len W9 (PreOf R mc ms Pc) (PostOf Qc mc ms free) (vx_Post XC mc ms free) := by
  intro m meth c A g ig mk a X hg hsize hdg hW hn hp
  have h1 : (headSpec ws rm).pre.before a A.U = true := atoms_intro fun w hw => hws w hw _ _ X.warmed
  have h2 : (Cond.code y bytes maxL ret).before a A.U = true := hws _ hcode _ _ X.warmed
  have h3 : (Cond.initialized y.cls).before a A.U = true := hinit _ _ X.warmed
  have h4 : A.cells + (headSpec ws rm).room.cells ≤ R.cells := by rw [show (headSpec ws rm).room.cells = mc from hrc]; exact hp.1
  have h5 : A.slots + (headSpec ws rm).room.slots ≤ R.slots := by rw [show (headSpec ws rm).room.slots = ms from hrs]; exact hp.2.1
  have hPc : Pc a (A.U.calling g mk a) := hblind _ _ _ _ hp.2.2
  obtain ⟨U, Ls, c0, s0⟩ := A
  dsimp only [Pt.U, Pt.locs, Pt.cells, Pt.slots] at h1 h2 h3 h4 h5 X hn hPc ⊢
  obtain ⟨methY, cY, hmY, hcY, -, hlY, -, -, -, -⟩ := Cond.code_spec hn h2
  obtain ⟨kY, hkY, -⟩ := className_of_methodNamed hn
  have hinitY : kY.init = .initialized := Cond.initialized_spec (findClass_of_methodNamed hn) hkY h3
  have h : At U g.method c below := by rw [hg]; exact X.here
  have hlocals9 : W9 + (maxL + 11) + (headSpec ws rm).room.locals ≤ R.locals := hlocals
  have happ : (headSpec ws rm).appliesLoose y e.platform (U.calling g mk a) = true :=
    Spec.appliesLoose_calling (g := g) h hdg hn hkY hinitY
      (X.room_calling (g := g) (R' := (headSpec ws rm).room) hsize hmY hcY hframes (by rw [hlY]; omega) h4 h5) h1
  obtain ⟨mid, hmid⟩ := h.above
  have hfr : (U.setTop g).frames = (.java g :: mid) ++ below := by rw [State.frames_setTop' g h.top, hmid]; rfl
  obtain ⟨o, s₂, hsteps, -, hend, hq⟩ := Steps.callFree hM p X.admits X.cas X.clock (acts := []) hfr happ hPc trivial
  have hq' : vx_Q Qc XC mc ms free a (U.calling g mk a) o s₂ := hq
  rw [State.frames_setTop' g h.top] at hend
  obtain ⟨g₀, hg0⟩ := Option.isSome_iff_exists.mp h.top
  obtain ⟨r, hr⟩ := State.topJava?_eq_some.mp hg0
  have hr' : (({ U with heap := s₂.heap, slotsUsed := s₂.slotsUsed } : State).setVm s₂.vm).frames = .java g₀ :: r := hr
  rcases hq' with ⟨hqc, L, hfe, hL⟩ | ⟨q, rfl, E, ce, L, hx, hce, hcv, hcl, hW₂, hsm, hL⟩
  · obtain ⟨⟨v, rfl⟩, hW₂, e2, q2, q3, q4, q5, q6⟩ := id hfe
    have e3 : s₂ = ({ (U.calling g mk a).setFrames s₂.frames with heap := s₂.heap, slotsUsed := s₂.slotsUsed } : State).setVm s₂.vm := by
      have : s₂ = ({ s₂ with vm := (U.calling g mk a).vm } : State).setVm s₂.vm := rfl
      rw [e2] at this
      exact this
    obtain ⟨c₂, i₂, len₂, hc₂, hd₂, hf₂⟩ := hend
    have hW' : U.WarmedH s₂.vm := hW₂
    have hcc : c₂ = c := by
      have h1 : s₂.code? g.method = U.code? g.method := by
        rw [State.code?_eq, State.code?_eq, hW'.alike.method?]
      exact Option.some.inj (hc₂.symm.trans (h1.trans h.code))
    subst hcc
    have hlen : len₂ = len := by rw [hdg] at hd₂; cases hd₂; rfl
    subst hlen
    have hs₂ : s₂ = (({ U with heap := s₂.heap, slotsUsed := s₂.slotsUsed } : State).setVm s₂.vm).setTop { g with pc := g.pc + len₂, stack := v.toList ++ g.stack } := by
      refine e3.trans ?_
      rw [hf₂, State.calling_eq h.top, State.setFrames_setFrames, State.setTop_of_frames _ hr', hr]
      rfl
    have hsame : U.sameButNew ({ U with heap := s₂.heap, slotsUsed := s₂.slotsUsed } : State) L mc ms := by
      refine ⟨?_, q2, q3, q4, q5, q6⟩
      obtain ⟨t, ht, -⟩ := State.frames_cons hr
      show ({ U with heap := s₂.heap, slotsUsed := s₂.slotsUsed } : State) = { U.setFrames U.frames with heap := s₂.heap, slotsUsed := s₂.slotsUsed }
      rw [State.setFrames_self ht]
    subst hg
    refine Or.inl ⟨v, ⟨(({ U with heap := s₂.heap, slotsUsed := s₂.slotsUsed } : State).setVm s₂.vm), Ls ++ L, c0 + mc, s0 + ms⟩,
      ⟨X.admits, X.cas, X.clock, X.frames, X.room, X.hears, X.method, X.code, (X.here.setHeapUsed s₂.heap s₂.slotsUsed).setVm hW'.alike, X.tail, State.WarmedH.trans X.warmed hW', X.limits, X.bytes, X.same.trans (hsame.setVm s.vm)⟩,
      ⟨g, mk, s₂, L, rfl, rfl, hqc, rfl, hL, rfl, rfl⟩, ?_⟩
    show Steps p.tables e below _ ((({ U with heap := s₂.heap, slotsUsed := s₂.slotsUsed } : State).setVm s₂.vm).setTop { g with pc := g.pc + len₂, stack := v.toList ++ g.stack })
    rw [← hs₂]
    exact hsteps
  · obtain ⟨e2, q2, q3, q4, q5, q6⟩ := id hsm
    have e3 : s₂ = ({ (U.calling g mk a).setFrames s₂.frames with heap := s₂.heap, slotsUsed := s₂.slotsUsed } : State).setVm s₂.vm := by
      have : s₂ = ({ s₂ with vm := (U.calling g mk a).vm } : State).setVm s₂.vm := rfl
      rw [e2] at this
      exact this
    have hf₂ : s₂.frames = .throwing q :: .java g :: U.frames.tail := hend
    have hW' : U.WarmedH s₂.vm := hW₂
    have hs₂ : s₂ = ((({ U with heap := s₂.heap, slotsUsed := s₂.slotsUsed } : State).setVm s₂.vm).setTop g).pushFrame (.throwing q) := by
      refine e3.trans ?_
      rw [hf₂, State.calling_eq h.top, State.setFrames_setFrames, State.pushFrame, State.frames_setTop _ hr', State.setTop_of_frames _ hr', State.setFrames_setFrames, hr]
      rfl
    have hsame : U.sameButNew ({ U with heap := s₂.heap, slotsUsed := s₂.slotsUsed } : State) L mc ms := by
      refine ⟨?_, q2, q3, q4, q5, q6⟩
      obtain ⟨t, ht, -⟩ := State.frames_cons hr
      show ({ U with heap := s₂.heap, slotsUsed := s₂.slotsUsed } : State) = { U.setFrames U.frames with heap := s₂.heap, slotsUsed := s₂.slotsUsed }
      rw [State.setFrames_self ht]
    subst hg
    refine Or.inr ⟨q, ⟨(({ U with heap := s₂.heap, slotsUsed := s₂.slotsUsed } : State).setVm s₂.vm), Ls ++ L, c0 + mc, s0 + ms⟩,
      ⟨X.admits, X.cas, X.clock, X.frames, X.room, X.hears, X.method, X.code, (X.here.setHeapUsed s₂.heap s₂.slotsUsed).setVm hW'.alike, X.tail, State.WarmedH.trans X.warmed hW', X.limits, X.bytes, X.same.trans (hsame.setVm s.vm)⟩,
      ⟨g, mk, s₂, L, E, ce, rfl, rfl, hx, hce, hcv, hcl, rfl, hL, rfl, rfl⟩, ?_⟩
    show Steps p.tables e below _ (((({ U with heap := s₂.heap, slotsUsed := s₂.slotsUsed } : State).setVm s₂.vm).setTop g).pushFrame (.throwing q))
    rw [← hs₂]
    exact hsteps
end Payer
section Calls
variable {p : Program} {l : Launch} {e : Env} {R : Room} {s : State} {m : MethodId} {args : Array Value} {below : List Frame} {meth : Method} {c : Code} {T : State} {locs : List Loc} {cells slots : Nat}
theorem vx_callV (X : Stand p l e R s m args below meth c T locs cells slots) (hexec : p.tables.exec = Jvm.exec) {own C : String} {index : Nat} {y : MethodName} {bytes : ByteArray} {maxL : Nat} {ret : Option FieldType}
    (hown : s.vm.findClass own = some m.cls) (hlink : (Cond.methodLink own index y).before args s = true) (hinst : (Cond.instanceMethod y).before args s = true) (hsel : (Cond.selects C y y).before args s = true)
    (hcode : (Cond.code y bytes maxL ret).before args s = true) (hy : y.cls ≠ "java/lang/invoke/MethodHandle" ∧ y.cls ≠ "java/lang/invoke/VarHandle")
    {W9 : Nat} {Pre : Pt → Array Value → Prop} {Post : Pt → Array Value → Option Value → Pt → Prop} {PostX : Pt → Array Value → Addr → Pt → Prop} (hK : vx_Back l R p e below s args y 3 W9 Pre Post PostX)
    {b : Addr} {cellB : Cell} (hcell : T.heap[b]? = some cellB) (hobj : cellB.vm.isStatics = false) (hcls : s.vm.findClass C = some cellB.cls)
    {g : JFrame} (hg : g.method = m) (hsize : g.locals.size = c.maxLocals) {argsL rest : List Value} (hlen : ∀ sig, parseMethodDescriptor y.desc = some sig → argsL.length = sig.parameters.length)
    (hstack : g.stack = argsL.reverse ++ .ref b :: rest) (hW : 2 * g.monitorRoom + (rest.map fun v => v.category).sum ≤ W9) (hdg : decode c.code g.pc = .ok (.invokevirtual index, 3))
    (hpre : ∀ vm₁, s.WarmedH vm₁ → Pre ⟨T.setVm vm₁, locs, cells, slots⟩ (Value.ref b :: argsL).toArray) :
    (∃ (v : Option Value) (vm₁ : Vm) (B : Pt), s.WarmedH vm₁ ∧ Stand p l e R s m args below meth c B.U B.locs B.cells B.slots ∧ Post ⟨T.setVm vm₁, locs, cells, slots⟩ (Value.ref b :: argsL).toArray v B ∧
      ∀ target, Steps p.tables e below (B.U.setTop { g with pc := g.pc + 3, stack := v.toList ++ rest }) target → Steps p.tables e below (T.setTop g) target) ∨
    (∃ (q : Addr) (vm₁ : Vm) (B : Pt), s.WarmedH vm₁ ∧ Stand p l e R s m args below meth c B.U B.locs B.cells B.slots ∧ PostX ⟨T.setVm vm₁, locs, cells, slots⟩ (Value.ref b :: argsL).toArray q B ∧
      Steps p.tables e below (T.setTop g) ((B.U.setTop { g with stack := rest }).pushFrame (.throwing q))) := by
  obtain ⟨mk, methM, hnamed, hmethM, hstM, habM⟩ := Cond.instanceMethod_spec hinst
  obtain ⟨methM', cM, hmethM', -, -, -, -, -, -, hsigM⟩ := Cond.code_spec hnamed hcode
  cases hmethM.symm.trans hmethM'
  obtain ⟨c2, r2, m2, q1, q2, q3, q4, kP, hkP, hkPi⟩ := Cond.selects_spec hsel
  cases hcls.symm.trans q1
  cases (State.methodFound?_of_named hnamed hy).symm.trans q2
  cases hnamed.symm.trans q3
  have hselP : selectMethod e.platform s.vm cellB.cls mk = .method mk := by rw [Launch.admits_selectMethod X.admits]; exact q4
  obtain ⟨vm₁, X₁, hstep₁⟩ := X.invokevirtual hexec hown hlink hnamed hmethM hstM hkP hkPi hy (a := b) (cell := cellB) hcell
    (fun z h => by rw [h] at hobj; cases hobj) hselP hmethM habM hkP hkPi (g := g) hg (argsL := argsL) (rest := rest) (hlen _ hsigM) hstack hdg
  rcases hK m meth c ⟨T.setVm vm₁, locs, cells, slots⟩ { g with stack := rest } (.invokevirtual index) mk (Value.ref b :: argsL).toArray X₁ hg hsize hdg hW (X₁.named hnamed) (hpre vm₁ X₁.warmed) with ⟨v, B, X', hpost, hsteps⟩ | ⟨q, B, X', hpost, hsteps⟩
  · exact Or.inl ⟨v, vm₁, B, X₁.warmed, X', hpost, fun target h => hstep₁ _ fun acts => by rw [doInvoke_state]; exact hsteps.trans h⟩
  · exact Or.inr ⟨q, vm₁, B, X₁.warmed, X', hpost, hstep₁ _ fun acts => by rw [doInvoke_state]; exact hsteps⟩
theorem vx_callS (X : Stand p l e R s m args below meth c T locs cells slots) (hexec : p.tables.exec = Jvm.exec) {own : String} {index : Nat} {y : MethodName} {bytes : ByteArray} {maxL : Nat} {ret : Option FieldType}
    (hown : s.vm.findClass own = some m.cls) (hlink : (Cond.methodLink own index y).before args s = true) (hstat : (Cond.static y).before args s = true) (hinit : (Cond.initialized y.cls).before args s = true)
    (hcode : (Cond.code y bytes maxL ret).before args s = true) (hy : y.cls ≠ "java/lang/invoke/MethodHandle" ∧ y.cls ≠ "java/lang/invoke/VarHandle")
    {W9 : Nat} {Pre : Pt → Array Value → Prop} {Post : Pt → Array Value → Option Value → Pt → Prop} {PostX : Pt → Array Value → Addr → Pt → Prop} (hK : vx_Back l R p e below s args y 3 W9 Pre Post PostX)
    {g : JFrame} (hg : g.method = m) (hsize : g.locals.size = c.maxLocals) {argsL rest : List Value} (hlen : ∀ sig, parseMethodDescriptor y.desc = some sig → argsL.length = sig.parameters.length)
    (hstack : g.stack = argsL.reverse ++ rest) (hW : 2 * g.monitorRoom + (rest.map fun v => v.category).sum ≤ W9) (hdg : decode c.code g.pc = .ok (.invokestatic index, 3))
    (hpre : ∀ vm₁, s.WarmedH vm₁ → Pre ⟨T.setVm vm₁, locs, cells, slots⟩ argsL.toArray) :
    (∃ (v : Option Value) (vm₁ : Vm) (B : Pt), s.WarmedH vm₁ ∧ Stand p l e R s m args below meth c B.U B.locs B.cells B.slots ∧ Post ⟨T.setVm vm₁, locs, cells, slots⟩ argsL.toArray v B ∧
      ∀ target, Steps p.tables e below (B.U.setTop { g with pc := g.pc + 3, stack := v.toList ++ rest }) target → Steps p.tables e below (T.setTop g) target) ∨
    (∃ (q : Addr) (vm₁ : Vm) (B : Pt), s.WarmedH vm₁ ∧ Stand p l e R s m args below meth c B.U B.locs B.cells B.slots ∧ PostX ⟨T.setVm vm₁, locs, cells, slots⟩ argsL.toArray q B ∧
      Steps p.tables e below (T.setTop g) ((B.U.setTop { g with stack := rest }).pushFrame (.throwing q))) := by
  obtain ⟨mk, hnamed⟩ := Cond.code_named hcode
  obtain ⟨methM, cM, hmethM, -, -, -, -, -, -, hsigM⟩ := Cond.code_spec hnamed hcode
  have hstatic : methM.isStatic = true := Cond.static_spec hnamed hmethM hstat
  obtain ⟨kP, hkP, -⟩ := className_of_methodNamed hnamed
  have hinitP : kP.init = .initialized := Cond.initialized_spec (findClass_of_methodNamed hnamed) hkP hinit
  obtain ⟨vm₁, X₁, hstep₁⟩ := X.invokestatic hexec hown hlink hnamed hmethM hstatic hkP hinitP hy (g := g) hg (argsL := argsL) (rest := rest) (hlen _ hsigM) hstack hdg
  rcases hK m meth c ⟨T.setVm vm₁, locs, cells, slots⟩ { g with stack := rest } (.invokestatic index) mk argsL.toArray X₁ hg hsize hdg hW (X₁.named hnamed) (hpre vm₁ X₁.warmed) with ⟨v, B, X', hpost, hsteps⟩ | ⟨q, B, X', hpost, hsteps⟩
  · exact Or.inl ⟨v, vm₁, B, X₁.warmed, X', hpost, fun target h => hstep₁ _ fun acts => by rw [doInvoke_state]; exact hsteps.trans h⟩
  · exact Or.inr ⟨q, vm₁, B, X₁.warmed, X', hpost, hstep₁ _ fun acts => by rw [doInvoke_state]; exact hsteps⟩
end Calls
theorem vx_cls {s : State} {T : State} {vm₁ : Vm} {E : String} {k : ClassId} (hW : s.WarmedH vm₁) (h : (T.setVm vm₁).vm.findClass E = some k) : s.vm.findClass E = some k := by
  have h1 : vm₁.findClass E = some k := h
  rw [hW.alike.findClass] at h1
  exact h1
/-- the method's frame g, with q thrown over it -/
def vx_W (p : Program) (l : Launch) (e : Env) (R : Room) (s : State) (m : MethodId) (args : Array Value) (below : List Frame) (meth : Method) (c : Code) (H : Heap) (locs : List Loc) (cells slots : Nat) (Q : State → Prop) (g : JFrame) (q : Addr) : Prop :=
  ∀ T : State, T.heap = H → Stand p l e R s m args below meth c T locs cells slots → ∃ t, Steps p.tables e below ((T.setTop g).pushFrame (.throwing q)) t ∧ Q t
def vx_Run (p : Program) (l : Launch) (e : Env) (R : Room) (s : State) (m : MethodId) (args : Array Value) (below : List Frame) (meth : Method) (c : Code) (H : Heap) (locs : List Loc) (cells slots mc ms : Nat) (g : JFrame) (rest : List Value) (Qa : State → Outcome → State → Prop) (XC : String → State → State → Prop) (free : Addr → Prop) : Prop :=
  ∀ T : State, T.heap = H → Stand p l e R s m args below meth c T locs cells slots →
    (∃ (v : Option Value) (st₀ t T' : State) (L : List Loc), st₀.heap = H ∧ Stand p l e R s m args below meth c T' (locs ++ L) (cells + mc) (slots + ms) ∧ (∀ q ∈ L, free q.base) ∧ T'.heap = t.heap ∧ T'.vm = t.vm ∧ Qa st₀ (.returned v) t ∧
      Goes p e below T g T' { g with pc := g.pc + 3, stack := v.toList ++ rest }) ∨
    (∃ (q : Addr) (st₀ t T' : State) (L : List Loc) (E : String) (ce : Cell), st₀.heap = H ∧ Stand p l e R s m args below meth c T' (locs ++ L) (cells + mc) (slots + ms) ∧ (∀ z ∈ L, free z.base) ∧ T'.heap = t.heap ∧ T'.vm = t.vm ∧ XC E st₀ t ∧ t.heap[q]? = some ce ∧ ce.vm = .none ∧ s.vm.findClass E = some ce.cls ∧
      Steps p.tables e below (T.setTop g) ((T'.setTop { g with stack := rest }).pushFrame (.throwing q)))
def vx_X {S : Type} (px : S → Prop) (B : String → S → State → Prop) (A : Nat → Prop) : String → State → State → Prop := fun E st t => ∃ u : S, px u ∧ B E u t ∧ va_F A st t
section Runs
variable {p : Program} {l : Launch} {e : Env} {R : Room} {s : State} {m : MethodId} {args : Array Value} {below : List Frame} {meth : Method} {c : Code} {H : Heap} {locs : List Loc} {cells slots : Nat}
variable {y : MethodName} {bytes cc : ByteArray} {maxL nL mc ms n index : Nat} {ret : Option FieldType} {ws : List Cond} {rm : Room} {Pc : Array Value → State → Prop} {Qc : Array Value → State → Outcome → State → Prop} {XC : String → State → State → Prop} {free : Addr → Prop} {Ts : List Cond} {own C : String} {b : Addr} {As rest : List Value} {g : JFrame}
theorem vx_callBack (cb : CallB R s args own index y bytes maxL ret ws rm mc ms n) (hM : vx_Met l y ws rm Pc Qc XC mc ms free) (hbl : FrameBlind Pc) : vx_Back l R p e below s args y 3 8 (PreOf R mc ms Pc) (PostOf Qc mc ms free) (vx_Post XC mc ms free) := by
  obtain ⟨hrc, hrs, hfr, hlo, hws, hcw, -, hini, -⟩ := cb
  exact vx_back (bytes := bytes) (maxL := maxL) (ret := ret) hM hbl hrc hrs hfr hlo hws hcw (fun a' U hW => word_at hW (Or.inl (by first | rfl | simp [Cond.onTables, Cond.keeps, Cond.steady])) hini)
theorem vx_runV (S : CallFix p m c cc nL s args Ts own) (hM : vx_Met l y ws rm Pc Qc XC mc ms free) (cw : CallW R s args own C index y bytes maxL ret ws rm mc ms n) (hp : PreV s H C b Pc As)
    (hg : g.method = m) (hn : As.length = n) (hsize : g.locals.size = nL) (hstack : g.stack = As.reverse ++ .ref b :: rest) (hW : 2 * g.monitorRoom + (rest.map fun v => v.category).sum ≤ 8) (hdg : decode cc g.pc = .ok (.invokevirtual index, 3)) (hf : cells + mc ≤ R.cells ∧ slots + ms ≤ R.slots) :
    vx_Run p l e R s m args below meth c H locs cells slots mc ms g rest (Qc (Value.ref b :: As).toArray) XC free := by
  have hK : vx_Back l R p e below s args y 3 8 (PreOf R mc ms Pc) (PostOf Qc mc ms free) (vx_Post XC mc ms free) := vx_callBack cw.1 hM hp.1
  obtain ⟨⟨-, -, -, -, -, -, hcode, -, hy, hlen, hl⟩, hin, hse⟩ := cw
  obtain ⟨hx, hb, hml, ho, -⟩ := S
  obtain ⟨-, ⟨cellB, hcB, hoB, hclB⟩, hPc⟩ := hp
  intro T hT X
  rcases vx_callV X hx (C := C) (bytes := bytes) (maxL := maxL) (ret := ret) ho hl hin hse hcode hy hK (by rw [hT]; exact hcB) hoB hclB hg (hsize.trans hml.symm) (argsL := As) (rest := rest) (fun sig h => hn.trans (hlen sig h)) hstack hW (by rw [hb]; exact hdg)
    (fun vm₁ hW₁ => ⟨hf.1, hf.2, hPc (T.setVm vm₁) hT hW₁⟩) with ⟨v, vm₁, ⟨U', l2, c2, s2⟩, hW₁, X', ⟨g', mk, t, L, e1, e2, hq, h1, hL, h2, h3⟩, st⟩ | ⟨q, vm₁, ⟨U', l2, c2, s2⟩, hW₁, X', ⟨g', mk, t, L, E, ce, e1, e2, hq, hce, hcv, hcl, h1, hL, h2, h3⟩, st⟩
  · dsimp only [Pt.U, Pt.locs, Pt.cells, Pt.slots] at X' e1 e2 h1 h2 h3 st
    subst h1; subst h2; subst h3
    exact Or.inl ⟨v, (T.setVm vm₁).calling g' mk (Value.ref b :: As).toArray, t, U', L, hT, X', hL, e1, e2, hq, st⟩
  · dsimp only [Pt.U, Pt.locs, Pt.cells, Pt.slots] at X' e1 e2 h1 h2 h3 st hcl
    subst h1; subst h2; subst h3
    exact Or.inr ⟨q, (T.setVm vm₁).calling g' mk (Value.ref b :: As).toArray, t, U', L, E, ce, hT, X', hL, e1, e2, hq, hce, hcv, vx_cls hW₁ hcl, st⟩
theorem vx_runS (S : CallFix p m c cc nL s args Ts own) (hM : vx_Met l y ws rm Pc Qc XC mc ms free) (cw : CallB R s args own index y bytes maxL ret ws rm mc ms n ∧ (Cond.static y).before args s = true) (hp : PreS s H Pc As)
    (hg : g.method = m) (hn : As.length = n) (hsize : g.locals.size = nL) (hstack : g.stack = As.reverse ++ rest) (hW : 2 * g.monitorRoom + (rest.map fun v => v.category).sum ≤ 8) (hdg : decode cc g.pc = .ok (.invokestatic index, 3)) (hf : cells + mc ≤ R.cells ∧ slots + ms ≤ R.slots) :
    vx_Run p l e R s m args below meth c H locs cells slots mc ms g rest (Qc As.toArray) XC free := by
  have hK : vx_Back l R p e below s args y 3 8 (PreOf R mc ms Pc) (PostOf Qc mc ms free) (vx_Post XC mc ms free) := vx_callBack cw.1 hM hp.1
  obtain ⟨⟨-, -, -, -, -, -, hcode, hini, hy, hlen, hl⟩, hstt⟩ := cw
  obtain ⟨hx, hb, hml, ho, -⟩ := S
  intro T hT X
  rcases vx_callS X hx (bytes := bytes) (maxL := maxL) (ret := ret) ho hl hstt hini hcode hy hK hg (hsize.trans hml.symm) (argsL := As) (rest := rest) (fun sig h => hn.trans (hlen sig h)) hstack hW (by rw [hb]; exact hdg)
    (fun vm₁ hW₁ => ⟨hf.1, hf.2, hp.2 (T.setVm vm₁) hT hW₁⟩) with ⟨v, vm₁, ⟨U', l2, c2, s2⟩, hW₁, X', ⟨g', mk, t, L, e1, e2, hq, h1, hL, h2, h3⟩, st⟩ | ⟨q, vm₁, ⟨U', l2, c2, s2⟩, hW₁, X', ⟨g', mk, t, L, E, ce, e1, e2, hq, hce, hcv, hcl, h1, hL, h2, h3⟩, st⟩
  · dsimp only [Pt.U, Pt.locs, Pt.cells, Pt.slots] at X' e1 e2 h1 h2 h3 st
    subst h1; subst h2; subst h3
    exact Or.inl ⟨v, (T.setVm vm₁).calling g' mk As.toArray, t, U', L, hT, X', hL, e1, e2, hq, st⟩
  · dsimp only [Pt.U, Pt.locs, Pt.cells, Pt.slots] at X' e1 e2 h1 h2 h3 st hcl
    subst h1; subst h2; subst h3
    exact Or.inr ⟨q, (T.setVm vm₁).calling g' mk As.toArray, t, U', L, E, ce, hT, X', hL, e1, e2, hq, hce, hcv, vx_cls hW₁ hcl, st⟩
end Runs
section Rows
variable {p : Program} {l : Launch} {e : Env} {R : Room} {s : State} {m : MethodId} {args : Array Value} {below : List Frame} {meth : Method} {c : Code} {H : Heap} {locs : List Loc} {cells slots : Nat} {Q : State → Prop}
variable {mc ms : Nat} {free : Addr → Prop} {A0 A1 : Nat → Prop} {H0 : Heap} {a : Array Value} {pc : Nat} {ls : Array Slot} {st0 rest : List Value}
theorem vx_keep {st₀ t T' : State} {L : List Loc} (h0 : st₀.heap = H) (e1 : T'.heap = t.heap) (hS : va_S A0 H0 H locs) (hA : ∀ q, q < H.size → A1 q → A0 q) (hf : ∀ q, free q → A0 q) (hL : ∀ q ∈ L, free q.base) (hF : va_F A1 st₀ t) :
    H.size ≤ T'.heap.size ∧ (∀ q : Nat, q < H.size → ¬ A1 q → T'.heap[q]? = H[q]?) ∧ va_S A0 H0 T'.heap (locs ++ L) := by
  obtain ⟨hz, hk⟩ := hF
  rw [h0] at hz hk
  exact ⟨by rw [e1]; exact hz, fun q h1 h2 => by rw [e1]; exact hk q h1 h2,
    ⟨Nat.le_trans hS.1 (by rw [e1]; exact hz), fun q h1 h2 => by rw [e1, hk q (Nat.lt_of_lt_of_le h1 hS.1) (fun z => h2 (hA q (Nat.lt_of_lt_of_le h1 hS.1) z))]; exact hS.2.1 q h1 h2, fun q hq => by
      rcases List.mem_append.mp hq with h | h
      · exact hS.2.2 q h
      · exact hf _ (hL q h)⟩⟩
theorem vx_calli {S SX : Type} {post : Int32 → S → Prop} {px : SX → Prop} {B : S → State → Prop} {BX : String → SX → State → Prop} {AX : Nat → Prop} (hr : vx_Run p l e R s m args below meth c H locs cells slots mc ms (F0 m pc ls st0) rest (va_Qi post B A1 a) (vx_X px BX AX) free) (hS : va_S A0 H0 H locs) (hA : ∀ q, q < H.size → A1 q → A0 q) (hf : ∀ q, free q → A0 q) (hAX : ∀ q, q < H.size → AX q → A0 q)
    (kx : ∀ (E : String) (ce : Cell) (q9 : Addr) (u : SX) (t : State) (H1 : Heap) (locs1 : List Loc), t.heap = H1 → s.vm.Alike t.vm → px u → BX E u t → H.size ≤ H1.size → (∀ q : Nat, q < H.size → ¬ AX q → H1[q]? = H[q]?) → va_S A0 H0 H1 locs1 → H1[q9]? = some ce → ce.vm = .none → s.vm.findClass E = some ce.cls → vx_W p l e R s m args below meth c H1 locs1 (cells + mc) (slots + ms) Q (F0 m pc ls rest) q9)
    (kk : ∀ (r : Int32) (u : S) (t : State) (H1 : Heap) (locs1 : List Loc), t.heap = H1 → s.vm.Alike t.vm → post r u → B u t → H.size ≤ H1.size → (∀ q : Nat, q < H.size → ¬ A1 q → H1[q]? = H[q]?) → va_S A0 H0 H1 locs1 → W p l e R s m args below meth c H1 locs1 (cells + mc) (slots + ms) Q (F0 m (pc + 3) ls (.int r :: rest))) : W p l e R s m args below meth c H locs cells slots Q (F0 m pc ls st0) := by
  intro T hT X
  rcases hr T hT X with ⟨v, st₀, t, T', L, h0, X', hL, e1, e2, ⟨⟨r, u, hv, hp, hb⟩, hF⟩, st⟩ | ⟨q, st₀, t, T', L, E, ce, h0, X', hL, e1, e2, ⟨u, hp, hb, hF⟩, hce, hcv, hcl, st⟩
  · cases hv
    obtain ⟨k1, k2, k3⟩ := vx_keep h0 e1 hS hA hf hL hF
    obtain ⟨t2, a1, b1⟩ := kk r u t T'.heap (locs ++ L) e1.symm (by rw [← e2]; exact X'.warmed.alike) hp hb k1 k2 k3 T' rfl X'
    exact ⟨t2, st t2 a1, b1⟩
  · obtain ⟨k1, k2, k3⟩ := vx_keep h0 e1 hS hAX hf hL hF
    obtain ⟨t2, a1, b1⟩ := kx E ce q u t T'.heap (locs ++ L) e1.symm (by rw [← e2]; exact X'.warmed.alike) hp hb k1 k2 k3 (by rw [e1]; exact hce) hcv hcl T' rfl X'
    exact ⟨t2, st.trans a1, b1⟩
theorem vx_calll {S SX : Type} {post : Int64 → S → Prop} {px : SX → Prop} {B : S → State → Prop} {BX : String → SX → State → Prop} {AX : Nat → Prop} (hr : vx_Run p l e R s m args below meth c H locs cells slots mc ms (F0 m pc ls st0) rest (va_Ql post B A1 a) (vx_X px BX AX) free) (hS : va_S A0 H0 H locs) (hA : ∀ q, q < H.size → A1 q → A0 q) (hf : ∀ q, free q → A0 q) (hAX : ∀ q, q < H.size → AX q → A0 q)
    (kx : ∀ (E : String) (ce : Cell) (q9 : Addr) (u : SX) (t : State) (H1 : Heap) (locs1 : List Loc), t.heap = H1 → s.vm.Alike t.vm → px u → BX E u t → H.size ≤ H1.size → (∀ q : Nat, q < H.size → ¬ AX q → H1[q]? = H[q]?) → va_S A0 H0 H1 locs1 → H1[q9]? = some ce → ce.vm = .none → s.vm.findClass E = some ce.cls → vx_W p l e R s m args below meth c H1 locs1 (cells + mc) (slots + ms) Q (F0 m pc ls rest) q9)
    (kk : ∀ (r : Int64) (u : S) (t : State) (H1 : Heap) (locs1 : List Loc), t.heap = H1 → s.vm.Alike t.vm → post r u → B u t → H.size ≤ H1.size → (∀ q : Nat, q < H.size → ¬ A1 q → H1[q]? = H[q]?) → va_S A0 H0 H1 locs1 → W p l e R s m args below meth c H1 locs1 (cells + mc) (slots + ms) Q (F0 m (pc + 3) ls (.long r :: rest))) : W p l e R s m args below meth c H locs cells slots Q (F0 m pc ls st0) := by
  intro T hT X
  rcases hr T hT X with ⟨v, st₀, t, T', L, h0, X', hL, e1, e2, ⟨⟨r, u, hv, hp, hb⟩, hF⟩, st⟩ | ⟨q, st₀, t, T', L, E, ce, h0, X', hL, e1, e2, ⟨u, hp, hb, hF⟩, hce, hcv, hcl, st⟩
  · cases hv
    obtain ⟨k1, k2, k3⟩ := vx_keep h0 e1 hS hA hf hL hF
    obtain ⟨t2, a1, b1⟩ := kk r u t T'.heap (locs ++ L) e1.symm (by rw [← e2]; exact X'.warmed.alike) hp hb k1 k2 k3 T' rfl X'
    exact ⟨t2, st t2 a1, b1⟩
  · obtain ⟨k1, k2, k3⟩ := vx_keep h0 e1 hS hAX hf hL hF
    obtain ⟨t2, a1, b1⟩ := kx E ce q u t T'.heap (locs ++ L) e1.symm (by rw [← e2]; exact X'.warmed.alike) hp hb k1 k2 k3 (by rw [e1]; exact hce) hcv hcl T' rfl X'
    exact ⟨t2, st.trans a1, b1⟩
theorem vx_callf {S SX : Type} {post : UInt32 → S → Prop} {px : SX → Prop} {B : S → State → Prop} {BX : String → SX → State → Prop} {AX : Nat → Prop} (hr : vx_Run p l e R s m args below meth c H locs cells slots mc ms (F0 m pc ls st0) rest (va_Qf post B A1 a) (vx_X px BX AX) free) (hS : va_S A0 H0 H locs) (hA : ∀ q, q < H.size → A1 q → A0 q) (hf : ∀ q, free q → A0 q) (hAX : ∀ q, q < H.size → AX q → A0 q)
    (kx : ∀ (E : String) (ce : Cell) (q9 : Addr) (u : SX) (t : State) (H1 : Heap) (locs1 : List Loc), t.heap = H1 → s.vm.Alike t.vm → px u → BX E u t → H.size ≤ H1.size → (∀ q : Nat, q < H.size → ¬ AX q → H1[q]? = H[q]?) → va_S A0 H0 H1 locs1 → H1[q9]? = some ce → ce.vm = .none → s.vm.findClass E = some ce.cls → vx_W p l e R s m args below meth c H1 locs1 (cells + mc) (slots + ms) Q (F0 m pc ls rest) q9)
    (kk : ∀ (r : UInt32) (u : S) (t : State) (H1 : Heap) (locs1 : List Loc), t.heap = H1 → s.vm.Alike t.vm → post r u → B u t → H.size ≤ H1.size → (∀ q : Nat, q < H.size → ¬ A1 q → H1[q]? = H[q]?) → va_S A0 H0 H1 locs1 → W p l e R s m args below meth c H1 locs1 (cells + mc) (slots + ms) Q (F0 m (pc + 3) ls (.float r :: rest))) : W p l e R s m args below meth c H locs cells slots Q (F0 m pc ls st0) := by
  intro T hT X
  rcases hr T hT X with ⟨v, st₀, t, T', L, h0, X', hL, e1, e2, ⟨⟨r, u, hv, hp, hb⟩, hF⟩, st⟩ | ⟨q, st₀, t, T', L, E, ce, h0, X', hL, e1, e2, ⟨u, hp, hb, hF⟩, hce, hcv, hcl, st⟩
  · cases hv
    obtain ⟨k1, k2, k3⟩ := vx_keep h0 e1 hS hA hf hL hF
    obtain ⟨t2, a1, b1⟩ := kk r u t T'.heap (locs ++ L) e1.symm (by rw [← e2]; exact X'.warmed.alike) hp hb k1 k2 k3 T' rfl X'
    exact ⟨t2, st t2 a1, b1⟩
  · obtain ⟨k1, k2, k3⟩ := vx_keep h0 e1 hS hAX hf hL hF
    obtain ⟨t2, a1, b1⟩ := kx E ce q u t T'.heap (locs ++ L) e1.symm (by rw [← e2]; exact X'.warmed.alike) hp hb k1 k2 k3 (by rw [e1]; exact hce) hcv hcl T' rfl X'
    exact ⟨t2, st.trans a1, b1⟩
theorem vx_calld {S SX : Type} {post : UInt64 → S → Prop} {px : SX → Prop} {B : S → State → Prop} {BX : String → SX → State → Prop} {AX : Nat → Prop} (hr : vx_Run p l e R s m args below meth c H locs cells slots mc ms (F0 m pc ls st0) rest (va_Qd post B A1 a) (vx_X px BX AX) free) (hS : va_S A0 H0 H locs) (hA : ∀ q, q < H.size → A1 q → A0 q) (hf : ∀ q, free q → A0 q) (hAX : ∀ q, q < H.size → AX q → A0 q)
    (kx : ∀ (E : String) (ce : Cell) (q9 : Addr) (u : SX) (t : State) (H1 : Heap) (locs1 : List Loc), t.heap = H1 → s.vm.Alike t.vm → px u → BX E u t → H.size ≤ H1.size → (∀ q : Nat, q < H.size → ¬ AX q → H1[q]? = H[q]?) → va_S A0 H0 H1 locs1 → H1[q9]? = some ce → ce.vm = .none → s.vm.findClass E = some ce.cls → vx_W p l e R s m args below meth c H1 locs1 (cells + mc) (slots + ms) Q (F0 m pc ls rest) q9)
    (kk : ∀ (r : UInt64) (u : S) (t : State) (H1 : Heap) (locs1 : List Loc), t.heap = H1 → s.vm.Alike t.vm → post r u → B u t → H.size ≤ H1.size → (∀ q : Nat, q < H.size → ¬ A1 q → H1[q]? = H[q]?) → va_S A0 H0 H1 locs1 → W p l e R s m args below meth c H1 locs1 (cells + mc) (slots + ms) Q (F0 m (pc + 3) ls (.double r :: rest))) : W p l e R s m args below meth c H locs cells slots Q (F0 m pc ls st0) := by
  intro T hT X
  rcases hr T hT X with ⟨v, st₀, t, T', L, h0, X', hL, e1, e2, ⟨⟨r, u, hv, hp, hb⟩, hF⟩, st⟩ | ⟨q, st₀, t, T', L, E, ce, h0, X', hL, e1, e2, ⟨u, hp, hb, hF⟩, hce, hcv, hcl, st⟩
  · cases hv
    obtain ⟨k1, k2, k3⟩ := vx_keep h0 e1 hS hA hf hL hF
    obtain ⟨t2, a1, b1⟩ := kk r u t T'.heap (locs ++ L) e1.symm (by rw [← e2]; exact X'.warmed.alike) hp hb k1 k2 k3 T' rfl X'
    exact ⟨t2, st t2 a1, b1⟩
  · obtain ⟨k1, k2, k3⟩ := vx_keep h0 e1 hS hAX hf hL hF
    obtain ⟨t2, a1, b1⟩ := kx E ce q u t T'.heap (locs ++ L) e1.symm (by rw [← e2]; exact X'.warmed.alike) hp hb k1 k2 k3 (by rw [e1]; exact hce) hcv hcl T' rfl X'
    exact ⟨t2, st.trans a1, b1⟩
theorem vx_callv {S SX : Type} {post : S → Prop} {px : SX → Prop} {B : S → State → Prop} {BX : String → SX → State → Prop} {AX : Nat → Prop} (hr : vx_Run p l e R s m args below meth c H locs cells slots mc ms (F0 m pc ls st0) rest (va_Qv post B A1 a) (vx_X px BX AX) free) (hS : va_S A0 H0 H locs) (hA : ∀ q, q < H.size → A1 q → A0 q) (hf : ∀ q, free q → A0 q) (hAX : ∀ q, q < H.size → AX q → A0 q)
    (kx : ∀ (E : String) (ce : Cell) (q9 : Addr) (u : SX) (t : State) (H1 : Heap) (locs1 : List Loc), t.heap = H1 → s.vm.Alike t.vm → px u → BX E u t → H.size ≤ H1.size → (∀ q : Nat, q < H.size → ¬ AX q → H1[q]? = H[q]?) → va_S A0 H0 H1 locs1 → H1[q9]? = some ce → ce.vm = .none → s.vm.findClass E = some ce.cls → vx_W p l e R s m args below meth c H1 locs1 (cells + mc) (slots + ms) Q (F0 m pc ls rest) q9)
    (kk : ∀ (u : S) (t : State) (H1 : Heap) (locs1 : List Loc), t.heap = H1 → s.vm.Alike t.vm → post u → B u t → H.size ≤ H1.size → (∀ q : Nat, q < H.size → ¬ A1 q → H1[q]? = H[q]?) → va_S A0 H0 H1 locs1 → W p l e R s m args below meth c H1 locs1 (cells + mc) (slots + ms) Q (F0 m (pc + 3) ls (rest))) : W p l e R s m args below meth c H locs cells slots Q (F0 m pc ls st0) := by
  intro T hT X
  rcases hr T hT X with ⟨v, st₀, t, T', L, h0, X', hL, e1, e2, ⟨⟨u, hv, hp, hb⟩, hF⟩, st⟩ | ⟨q, st₀, t, T', L, E, ce, h0, X', hL, e1, e2, ⟨u, hp, hb, hF⟩, hce, hcv, hcl, st⟩
  · cases hv
    obtain ⟨k1, k2, k3⟩ := vx_keep h0 e1 hS hA hf hL hF
    obtain ⟨t2, a1, b1⟩ := kk u t T'.heap (locs ++ L) e1.symm (by rw [← e2]; exact X'.warmed.alike) hp hb k1 k2 k3 T' rfl X'
    exact ⟨t2, st t2 a1, b1⟩
  · obtain ⟨k1, k2, k3⟩ := vx_keep h0 e1 hS hAX hf hL hF
    obtain ⟨t2, a1, b1⟩ := kx E ce q u t T'.heap (locs ++ L) e1.symm (by rw [← e2]; exact X'.warmed.alike) hp hb k1 k2 k3 (by rw [e1]; exact hce) hcv hcl T' rfl X'
    exact ⟨t2, st.trans a1, b1⟩
/-- caught by the row x of this method's table; the rows ahead don't take it -/
theorem vx_catch {own name : String} {E : String} {ce : Cell} {q : Addr} (hown : s.vm.findClass own = some m.cls) (pre : List ExceptionTableEntry) (x : ExceptionTableEntry) (suf : List ExceptionTableEntry) (hsplit : c.exceptionTable.toList = pre ++ x :: suf)
    (hpass : ∀ z ∈ pre, covers z pc = false ∨ (z.catchType ≠ 0 ∧ ∃ nm : String, (Cond.classLink own z.catchType nm).before args s = true ∧ va_Nc E nm s)) (hx : covers x pc = true) (h0 : x.catchType ≠ 0)
    (hlink : (Cond.classLink own x.catchType name).before args s = true) (hcast : (Cond.castable E name).before args s = true) (hcell : H[q]? = some ce) (hv : ce.vm = .none) (hcl : s.vm.findClass E = some ce.cls)
    (kk : W p l e R s m args below meth c H locs cells slots Q (F0 m x.handlerPc ls [.ref q])) : vx_W p l e R s m args below meth c H locs cells slots Q (F0 m pc ls rest) q := by
  intro T hT X
  have hpl : e.platform.magicAccessors = ({} : Platform).magicAccessors := by rw [X.admits.platform]
  obtain ⟨c3, c4, hc3, hc4, hasg⟩ := Cond.castable_spec hcast
  cases Option.some.inj (hc3.symm.trans hcl)
  obtain ⟨c5, hc5, hcl5⟩ := Cond.classLink_spec hown hlink e.platform hpl
  cases Option.some.inj (hc4.symm.trans hc5)
  obtain ⟨vm', X', st⟩ := X.thenCaughtThrough q (g := F0 m pc ls rest) rfl (Steps.refl _) (by rw [hT]; exact hcell) (by rw [hv]; rfl) (by obtain ⟨k9, h9, -⟩ := Vm.findClass_spec hcl; exact ⟨k9, h9⟩) pre x suf hsplit
    (fun z hz => by
      rcases hpass z hz with h | ⟨hz0, nm, hl1, hn1⟩
      · exact Or.inl h
      · obtain ⟨c6, hc6, hcl6⟩ := Cond.classLink_spec hown hl1 e.platform hpl
        obtain ⟨a8, b8, h1, h2, h3⟩ := hn1
        cases Option.some.inj (h1.symm.trans hcl)
        cases Option.some.inj (h2.symm.trans hc6)
        exact Or.inr ⟨hz0, _, hcl6, h3⟩) hx (Or.inr ⟨h0, c4, hcl5, hasg⟩)
  obtain ⟨t, a1, b1⟩ := kk (T.setVm vm') hT X'
  exact ⟨t, st.trans a1, b1⟩
end Rows
section Ends
variable {p : Program} {l : Launch} {e : Env} {R : Room} {s : State} {m : MethodId} {args : Array Value} {below : List Frame} {meth : Method} {c : Code} {H : Heap} {locs : List Loc} {cells slots : Nat} {Q : State → Prop}
variable {mc ms : Nat} {free : Addr → Prop} {A0 A1 : Nat → Prop} {H0 : Heap} {a : Array Value} {ls : Array Slot} {st0 rest : List Value}
variable {Qc : Array Value → State → Outcome → State → Prop} {XC : String → State → State → Prop}
/-- what a body that may throw owes at its end -/
def vx_MQ (below : List Frame) (Qc : Array Value → State → Outcome → State → Prop) (XC : String → State → State → Prop) (a : Array Value) (s : State) (mc ms : Nat) (free : Addr → Prop) : State → Prop := fun t =>
  ∃ o, t.status = .running ∧ Ended t below o ∧ vx_Q Qc XC mc ms free a s o t
theorem vx_ret {g : JFrame} {mc ms : Nat} (k : W p l e R s m args below meth c H locs cells slots (MQ below Qc args s mc ms free) g) : W p l e R s m args below meth c H locs cells slots (vx_MQ below Qc XC args s mc ms free) g := by
  intro T hT X
  obtain ⟨t, a1, o, b1, b2, b3, b4⟩ := k T hT X
  exact ⟨t, a1, o, b1, b2, Or.inl ⟨b3, b4⟩⟩
/-- not caught here: it goes on to the caller -/
theorem vx_widen {g : JFrame} {q : Addr} {k n : Nat} (h1 : cells ≤ k) (h2 : slots ≤ n) (kk : vx_W p l e R s m args below meth c H locs k n Q g q) : vx_W p l e R s m args below meth c H locs cells slots Q g q := fun T hT X => kk T hT (stand_widen X h1 h2)
theorem vx_out {pc : Nat} {E : String} {ce : Cell} {q : Addr} {mc ms : Nat} (hout : ∀ x ∈ c.exceptionTable.toList, covers x pc = false) (hlocks : meth.locks = false) (hcell : H[q]? = some ce) (hv : ce.vm = .none) (hcl : s.vm.findClass E = some ce.cls)
    (hx : ∀ t : State, t.heap = H → s.vm.Alike t.vm → XC E s t) (hf : ∀ z ∈ locs, free z.base) (hc : cells ≤ mc) (hs : slots ≤ ms) :
    vx_W p l e R s m args below meth c H locs cells slots (vx_MQ below Qc XC args s mc ms free) (F0 m pc ls rest) q := by
  intro T hT X
  obtain ⟨st1, hrun, hend, hW, hsm⟩ := X.leaveThrown q (g := F0 m pc ls rest) rfl rfl rfl hout hlocks
  have hcell9 : (T.setFrames (.throwing q :: below)).heap[q]? = some ce := by
    show T.heap[q]? = some ce
    rw [hT]; exact hcell
  exact ⟨_, st1, .threw q, hrun, hend, Or.inr ⟨q, rfl, E, ce, locs, hx _ hT hW.alike, hcell9, hv, hcl, hW, hsm.mono hc hs, hf⟩⟩
theorem vx_frame {U : State} {k n : Nat} (h : s.sameButNew ({ U with vm := s.vm } : State) locs k n) : s.heap.size ≤ U.heap.size ∧ ∀ q : Nat, q < s.heap.size → (∀ z ∈ locs, z.base ≠ q) → U.heap[q]? = s.heap[q]? := by
  obtain ⟨-, h2, -, -, -, h6⟩ := h
  refine ⟨h2, fun q hq hz => ?_⟩
  obtain ⟨c9, e1, e2, e3, e4⟩ := h6 q _ (Array.getElem?_eq_getElem hq)
  have hs : c9.slots = (s.heap[q]).slots := Array.ext_getElem? fun i => e4 i fun hm => hz _ hm rfl
  have h9 : c9 = s.heap[q] := by
    rw [hs] at e2
    exact e2
  have e5 : U.heap[q]? = some c9 := e1
  rw [e5, h9, Array.getElem?_eq_getElem hq]
/-- the words of a throw but the four that speak of the heap -/
def vx_no (w : Cond) : Bool := decide (w ≠ .isRef (.static Bundle.tN "UNASSIGNED_STACK" Bundle.steD)) && decide (w ≠ .isRef (.static Bundle.tN "SUPPRESSED_SENTINEL" Bundle.listD)) && decide (w ≠ .laysStatic Bundle.tN "UNASSIGNED_STACK" Bundle.steD) && decide (w ≠ .laysStatic Bundle.tN "SUPPRESSED_SENTINEL" Bundle.listD)
def vx_at0 (own : String) (ic : Nat) (X : String) (names : List String) : List Cond := (Bundle.ownAtoms0 own ic X names).filter vx_no
def vx_atS (own : String) (ic : Nat) (X : String) (names : List String) : List Cond := (Bundle.ownAtoms own ic X names).filter vx_no
/-- a word that the tables alone decide, or a good one -/
def vx_ot (w : Cond) : Bool := w.onTables || goodWord w
theorem vx_ot_at {args a' : Array Value} {s U : State} {w : Cond} (hW : s.WarmedH U.vm) (hvm : s.vm = U.vm) (hg : vx_ot w = true) (h : w.before args s = true) : w.before a' U = true := by
  simp only [vx_ot, Bool.or_eq_true] at hg
  rcases hg with hg | hg
  · exact va_tabs hg hvm h
  · exact word_at hW (good_of_word hg) h
/-- a list's words: the good ones out of the method's own list, the others by premises of their own -/
theorem vx_hat {args : Array Value} {s : State} {L B : List Cond} (h1 : ∀ w ∈ L.filter goodWord, w.before args s = true) (h2 : ∀ w ∈ L.filter (fun w => !goodWord w), w ∈ B) (h3 : ∀ w ∈ B, w.before args s = true) : ∀ w ∈ L, w.before args s = true := by
  intro w hw
  by_cases g : goodWord w = true
  · exact h1 w (List.mem_filter.mpr ⟨hw, g⟩)
  · refine h3 w (h2 w (List.mem_filter.mpr ⟨hw, ?_⟩))
    show (!goodWord w) = true
    cases hgw : goodWord w
    · rfl
    · exact absurd hgw g
theorem vx_c {args : Array Value} {s : State} {w : Cond} {B : List Cond} (h : w.before args s = true) (t : ∀ w ∈ B, w.before args s = true) : ∀ w' ∈ w :: B, w'.before args s = true := fun w' h' => (List.mem_cons.mp h').elim (fun e => by rw [e]; exact h) (t w')
theorem vx_n {args : Array Value} {s : State} : ∀ w ∈ ([] : List Cond), w.before args s = true := fun _ h => nomatch h
theorem vx_own {args : Array Value} {s : State} {L : List Cond} (h1 : ∀ w ∈ L.filter vx_no, w.before args s = true)
    (hU : (Cond.isRef (.static Bundle.tN "UNASSIGNED_STACK" Bundle.steD)).before args s = true) (hN : (Cond.isRef (.static Bundle.tN "SUPPRESSED_SENTINEL" Bundle.listD)).before args s = true)
    (lU : (Cond.laysStatic Bundle.tN "UNASSIGNED_STACK" Bundle.steD).before args s = true) (lN : (Cond.laysStatic Bundle.tN "SUPPRESSED_SENTINEL" Bundle.listD).before args s = true) : ∀ w ∈ L, w.before args s = true := by
  intro w hw
  by_cases e1 : w = .isRef (.static Bundle.tN "UNASSIGNED_STACK" Bundle.steD)
  · rw [e1]; exact hU
  · by_cases e2 : w = .isRef (.static Bundle.tN "SUPPRESSED_SENTINEL" Bundle.listD)
    · rw [e2]; exact hN
    · by_cases e3 : w = .laysStatic Bundle.tN "UNASSIGNED_STACK" Bundle.steD
      · rw [e3]; exact lU
      · by_cases e4 : w = .laysStatic Bundle.tN "SUPPRESSED_SENTINEL" Bundle.listD
        · rw [e4]; exact lN
        · exact h1 w (List.mem_filter.mpr ⟨hw, by unfold vx_no; rw [decide_eq_true e1, decide_eq_true e2, decide_eq_true e3, decide_eq_true e4]; rfl⟩)
/-- where a static field lies, its class's statics cell in H -/
def vx_L (C n d : String) (A : Nat → Prop) (U : State) (H : Heap) : Prop := ∃ (c : ClassId) (k : Class) (i : Nat) (f : Field) (a : Nat) (cell : Cell), U.vm.findClass C = some c ∧ U.fieldFound? C n d = some (c, k, i, f) ∧ f.isStatic = true ∧ k.statics = some a ∧ H[a]? = some cell ∧ cell.vm.isStatics = true ∧ cell.cls = c ∧ f.slot < cell.slots.size ∧ k.staticTypes[f.slot]? = some f.type ∧ ¬ A a
theorem vx_L.moved {C n d : String} {A : Nat → Prop} {u U : State} {H : Heap} (hvm : u.vm.Alike U.vm) (h : vx_L C n d A u H) : vx_L C n d A U H := by
  obtain ⟨c, k, i, f, a, cell, h1, h2, h3, h4, h5, h6, h7, h8, h9, h10⟩ := h
  obtain ⟨k', hi', he⟩ := State.fieldFound?_setVm hvm h2
  exact ⟨c, k', i, f, a, cell, by rw [hvm.findClass]; exact h1, hi', h3, by rw [he]; exact h4, h5, h6, h7, h8, by rw [he]; exact h9, h10⟩
theorem vx_L.kept {C n d : String} {A : Nat → Prop} {U : State} {H H1 : Heap} (h : vx_L C n d A U H) (hq : ∀ a : Nat, a < H.size → ¬ A a → H1[a]? = H[a]?) : vx_L C n d A U H1 := by
  obtain ⟨c, k, i, f, a, cell, h1, h2, h3, h4, h5, h6, h7, h8, h9, h10⟩ := h
  exact ⟨c, k, i, f, a, cell, h1, h2, h3, h4, by rw [hq a (Array.getElem?_eq_some_iff.mp h5).1 h10]; exact h5, h6, h7, h8, h9, h10⟩
theorem vx_L.narrow {C n d : String} {A B : Nat → Prop} {U : State} {H : Heap} (h : vx_L C n d A U H) (hAB : ∀ q, B q → A q) : vx_L C n d B U H := by
  obtain ⟨c, k, i, f, a, cell, h1, h2, h3, h4, h5, h6, h7, h8, h9, h10⟩ := h
  exact ⟨c, k, i, f, a, cell, h1, h2, h3, h4, h5, h6, h7, h8, h9, fun z => h10 (hAB _ z)⟩
theorem vx_L.word {C n d : String} {A : Nat → Prop} {s : State} {args : Array Value} (h : vx_L C n d A s s.heap) : (Cond.laysStatic C n d).before args s = true := by
  obtain ⟨c, k, i, f, a, cell, h1, h2, h3, h4, h5, h6, h7, h8, h9, -⟩ := h
  show (Cond.laysStatic C n d).holds args s none s [] = true
  exact Cond.laysStatic_of h1 h2 h3 h4 h5 h6 h7 h8 h9
/-- .. and what it holds: null or some reference -/
def vx_Zq (C n d : String) (A : Nat → Prop) (U : State) (H : Heap) : Prop := va_Zq C n d A U H ∧ vx_L C n d A U H
theorem vx_Zq.moved {C n d : String} {A : Nat → Prop} {u U : State} {H : Heap} (hvm : u.vm.Alike U.vm) (h : vx_Zq C n d A u H) : vx_Zq C n d A U H := ⟨va_Zq.moved hvm h.1, vx_L.moved hvm h.2⟩
theorem vx_Zq.kept {C n d : String} {A : Nat → Prop} {U : State} {H H1 : Heap} (h : vx_Zq C n d A U H) (hq : ∀ a : Nat, a < H.size → ¬ A a → H1[a]? = H[a]?) : vx_Zq C n d A U H1 := ⟨va_Zq.kept h.1 hq, vx_L.kept h.2 hq⟩
theorem vx_Zq.narrow {C n d : String} {A B : Nat → Prop} {U : State} {H : Heap} (h : vx_Zq C n d A U H) (hAB : ∀ q, B q → A q) : vx_Zq C n d B U H := ⟨va_Zq.narrow h.1 hAB, vx_L.narrow h.2 hAB⟩
theorem vx_Zqof {args : Array Value} {s : State} {C n d : String} {A : Nat → Prop} (hl : (Cond.laysStatic C n d).before args s = true) (hini : (Cond.initialized C).before args s = true) (h : (Cond.isRef (.static C n d)).before args s = true) (hA : ∀ a : Nat, a < s.heap.size → ¬ A a) : vx_Zq C n d A s s.heap := by
  refine ⟨va_Zqof hl hini h hA, ?_⟩
  obtain ⟨c, k, i, f, a, cell, h1, h2, h3, h4, h5, h6, h7, h8, h9⟩ := Cond.laysStatic_spec hl
  exact ⟨c, k, i, f, a, cell, h1, h2, h3, h4, h5, h6, h7, h8, h9, hA a (Array.getElem?_eq_some_iff.mp h5).1⟩
theorem vx_isRef {C n d : String} {v : Value} {A : Nat → Prop} {s : State} {args : Array Value} (h : va_Z C n d v A s s.heap) (hv : v.isRef = true) : (Cond.isRef (.static C n d)).before args s = true := by
  obtain ⟨cf, kf, fi, f, a, cell, h1, h2, h3, h4, h5, h6, h7, -⟩ := h
  have he : (Term.static C n d).eval args s none [] s = some v := by
    simp [Term.eval, State.fieldNamed?, h1, h2, h4, h5, h6, h7]
  simp only [Cond.before, Cond.holds, Cond.value, he]
  cases v <;> simp_all [Value.isRef]
theorem vx_isRefq {C n d : String} {A : Nat → Prop} {s : State} {args : Array Value} (h : va_Zq C n d A s s.heap) : (Cond.isRef (.static C n d)).before args s = true := by
  rcases h with h | ⟨t, h⟩
  · exact vx_isRef h rfl
  · exact vx_isRef h rfl
/-- the same frame, seen from here: as if the method were called anew in this heap -/
theorem vx_rebase {T : State} (X : Stand p l e R s m args below meth c T locs cells slots) {R' : Room} (hf : R'.frames ≤ R.frames) (hl : R'.locals ≤ R.locals) (hc : cells + R'.cells ≤ R.cells) (hs : slots + R'.slots ≤ R.slots) :
    Stand p l e R' ((T.setVm s.vm).setFrames (.invoking m args :: below)) m args below meth c T [] 0 0 := by
  have htop : (T.setVm s.vm).topJava?.isSome := X.here.top
  have hF : ((T.setVm s.vm).setFrames (.invoking m args :: below)).frames = .invoking m args :: below := State.frames_setFrames _ (State.cur_lt_of_top htop)
  obtain ⟨g₀, hg0⟩ := Option.isSome_iff_exists.mp htop
  obtain ⟨r, hr⟩ := State.topJava?_eq_some.mp hg0
  have hl9 : e.platform.stackLimits (T.setVm s.vm).me = e.platform.stackLimits s.me := X.limits
  have hb9 : (T.setVm s.vm).me.stackBytes = s.me.stackBytes := X.bytes
  refine ⟨X.admits, X.cas, X.clock, hF, ?_, X.hears, X.method, X.code, X.here, X.tail, X.warmed, ?_, ?_, ?_⟩
  · have h := X.room
    have hU : ((T.setVm s.vm).setFrames (.invoking m args :: below)).localsInUse = s.localsInUse := by
      rw [State.localsInUse_invoking hF (meth := meth) (c := c) X.method X.code, State.localsInUse_invoking X.frames X.method X.code]
    simp only [State.hasRoom, Bool.and_eq_true, decide_eq_true_eq] at h ⊢
    obtain ⟨⟨⟨⟨h1, h2, h3, h4, h5, h6⟩, h7⟩, h8⟩, h9⟩ := h
    rw [X.frames, List.length_cons] at h2 h3
    have q1 := X.heapSize
    have q2 := X.used
    simp only [hF, hU, List.length_cons, State.stackLimits_setFrames, State.stackBytes_setFrames, hl9, hb9]
    refine ⟨⟨⟨⟨by omega, by omega, by omega, by omega, by omega, h6⟩, ?_⟩, ?_⟩, X.book⟩
    · show T.heap.size + R'.cells ≤ e.platform.maxCells
      omega
    · show T.slotsUsed + R'.slots ≤ e.platform.maxSlots
      omega
  · rw [State.stackLimits_setFrames]; rfl
  · rw [State.stackBytes_setFrames]; rfl
  · refine ⟨?_, Nat.le_refl _, Nat.le_refl _, ?_, ?_, fun a c9 h9 => ⟨c9, h9, rfl, rfl, fun _ _ => rfl⟩⟩
    · obtain ⟨t, ht, -⟩ := State.frames_cons hr
      show T.setVm s.vm = { ((T.setVm s.vm).setFrames (.invoking m args :: below)).setFrames (T.setVm s.vm).frames with heap := T.heap, slotsUsed := T.slotsUsed }
      rw [State.setFrames_setFrames, State.setFrames_self ht]
      rfl
    · show T.slotsUsed = T.slotsUsed + ((T.heap.toList.drop T.heap.size).map (·.slots.size)).sum
      rw [List.drop_eq_nil_of_le (Nat.le_of_eq Array.length_toList)]
      rfl
    · show ((T.heap.toList.drop T.heap.size).map (·.slots.size)).sum ≤ 0
      rw [List.drop_eq_nil_of_le (Nat.le_of_eq Array.length_toList)]
      exact Nat.le_refl _
/-- 'throw new E()': new; dup; invokespecial; athrow -/
theorem vx_throw0 {cc : ByteArray} {pc : Nat} (hexec : p.tables.exec = Jvm.exec) (hb : c.code = cc) (hl : l.stackTraces = false) {own cls : String} {names : List String} {ik ic mc ms : Nat} {A : Nat → Prop}
    (hown : s.vm.findClass own = some m.cls) (hcls : Bundle.fit cls = true) (hnames : ∀ n ∈ names, Bundle.fit n = true)
    (hk : (Cond.classLink own ik cls).before args s = true) (hini : (Cond.initialized cls).before args s = true) (hat : ∀ w ∈ vx_at0 own ic cls names, w.before args s = true)
    (hgood : ∀ w ∈ Cond.classLink own ik cls :: Cond.initialized cls :: vx_at0 own ic cls names, vx_ot w = true)
    (hU : vx_Zq Bundle.tN "UNASSIGNED_STACK" Bundle.steD A s s.heap) (hN : vx_Zq Bundle.tN "SUPPRESSED_SENTINEL" Bundle.listD A s s.heap) (hS : va_S A s.heap H locs) (hsize : ls.size = c.maxLocals)
    (d0 : decode cc pc = .ok (.new ik, 3)) (d3 : decode cc (pc + 3) = .ok (.dup, 1)) (d4 : decode cc (pc + 4) = .ok (.invokespecial ic, 3)) (d7 : decode cc (pc + 7) = .ok (.athrow, 1))
    (hout : ∀ x ∈ c.exceptionTable.toList, covers x (pc + 7) = false)
    (hRframes : names.length + 3 < R.frames) (hRlocals : (rest.map fun v => v.category).sum + (13 * (names.length + 1) + 42) ≤ R.locals) (hRcells : cells + 1 ≤ R.cells) (hRslots : slots + 6 ≤ R.slots) (hlocks : meth.locks = false)
    (hx : ∀ t : State, s.vm.Alike t.vm → H.size ≤ t.heap.size → (∀ q : Nat, q < H.size → t.heap[q]? = H[q]?) → XC cls s t)
    (hf : ∀ z ∈ locs, free z.base) (hc : cells + 1 ≤ mc) (hs : slots + 6 ≤ ms) :
    W p l e R s m args below meth c H locs cells slots (vx_MQ below Qc XC args s mc ms free) (F0 m pc ls rest) := by
  intro T hT X
  have htr : e.platform.stackTraces = false := (show e.platform.stackTraces = l.stackTraces by rw [X.admits.platform]).trans hl
  have Y := vx_rebase X (R' := { frames := R.frames, locals := R.locals, cells := 1, slots := 6 }) (Nat.le_refl _) (Nat.le_refl _) hRcells hRslots
  obtain ⟨s', hA⟩ : ∃ z, z = (T.setVm s.vm).setFrames (.invoking m args :: below) := ⟨_, rfl⟩
  rw [← hA] at Y
  have hvm : s'.vm = s.vm := by rw [hA]; rfl
  have hhp : s'.heap = H := by rw [hA]; exact hT
  have hW0 : s.WarmedH s'.vm := by rw [hvm]; exact State.WarmedH.refl s
  have hat' : ∀ w ∈ vx_at0 own ic cls names, w.before args s' = true := fun w hw => vx_ot_at hW0 hvm.symm (hgood w (List.mem_cons_of_mem _ (List.mem_cons_of_mem _ hw))) (hat w hw)
  have hk' : (Cond.classLink own ik cls).before args s' = true := vx_ot_at hW0 hvm.symm (hgood _ List.mem_cons_self) hk
  have hini' : (Cond.initialized cls).before args s' = true := vx_ot_at hW0 hvm.symm (hgood _ (List.mem_cons_of_mem _ List.mem_cons_self)) hini
  have hU' : vx_Zq Bundle.tN "UNASSIGNED_STACK" Bundle.steD A s' s'.heap := by rw [hhp]; exact vx_Zq.moved hW0.alike (hU.kept hS.2.1)
  have hN' : vx_Zq Bundle.tN "SUPPRESSED_SENTINEL" Bundle.listD A s' s'.heap := by rw [hhp]; exact vx_Zq.moved hW0.alike (hN.kept hS.2.1)
  have h : ∀ w ∈ Bundle.ownAtoms0 own ic cls names, w.before args s' = true := vx_own hat' (vx_isRefq hU'.1) (vx_isRefq hN'.1) hU'.2.word hN'.2.word
  have hown' : s'.vm.findClass own = some m.cls := by rw [hvm]; exact hown
  have hins : (Cond.instantiable cls 6).before args s' = true := h _ (by simp [Bundle.ownAtoms0])
  obtain ⟨vm₁, cX, kX, hfX, hkX, -, -, X₁, st1⟩ := Y.newCold hexec (own := own) (C := cls) (index := ik) (n := 6) hown' hk' hins hini'
    (g := F0 m pc ls rest) rfl (by rw [hb]; exact d0) (Nat.le_refl _) (Nat.le_refl _)
  generalize hT1 : (T.setVm vm₁).pushCell { cls := cX, slots := kX.instanceTypes.map defaultValue, vm := .none } = T1 at X₁ st1
  have hcat : (Value.ref T.heap.size).category = 1 := rfl
  have hcellA : T1.heap[T.heap.size]? = some (freshCell cX kX) := by rw [← hT1]; exact State.heap_pushCell_size _ _
  have d3' : decode c.code (pc + 3) = .ok (.dup, 1) := by rw [hb]; exact d3
  obtain ⟨U, hsteps, hrun, hend, hW, hsame, ce, hce, hO⟩ := X₁.ctorThrow0 hexec htr (own := own) (cls := cls) (names := names) (ic := ic) hown' hcls hnames h (fun x hx => nomatch hx) hfX hkX hcellA (by rw [hhp, hT]; exact Nat.le_refl _)
    (g := { method := m, pc := pc + 4, locals := ls, stack := .ref T.heap.size :: .ref T.heap.size :: rest, locked := none }) rfl hsize rfl rfl (rest := rest) rfl
    (by rw [hb]; exact d4) (by rw [hb]; exact d7) hout hRframes (by simp only [List.map_cons, List.sum_cons, hcat]; omega) hlocks
  obtain ⟨f1, f2⟩ := vx_frame hsame
  rw [hhp] at f1 f2
  have hWs : s.WarmedH U.vm := State.WarmedH.trans hW0 hW
  have hcl : s.vm.findClass cls = some ce.cls := by
    have h9 := hO.cls
    rw [hvm] at h9
    exact h9
  have hall : s.sameButNew ({ U with vm := s.vm } : State) locs mc ms := by
    subst hA
    obtain ⟨e1, e2⟩ := hsame
    rw [State.setFrames_setFrames] at e1
    have h2 : (T.setVm s.vm).sameButNew ({ U with vm := s.vm } : State) [] (0 + 1) (0 + 6) := ⟨e1, e2⟩
    have h3 := X.same.trans h2
    rw [List.append_nil] at h3
    exact h3.mono hc hs
  refine ⟨U, ?_, .threw T.heap.size, hrun, hend, Or.inr ⟨T.heap.size, rfl, cls, ce, locs, hx U hWs.alike f1 (fun q hq => f2 q hq (fun z hz => nomatch hz)), hce, hO.vm, hcl, hWs, hall, hf⟩⟩
  refine st1 _ ?_
  show Steps p.tables e below (T1.setTop { method := m, pc := pc + 3, locals := ls, stack := .ref T.heap.size :: rest, locked := none }) _
  jvm_step X₁.here [X₁.here.top, hexec, d3', Value.category]
  exact hsteps
/-- 'throw new E("text")': new; dup; ldc; invokespecial; athrow -/
theorem vx_throwS {cc : ByteArray} {pc : Nat} (hexec : p.tables.exec = Jvm.exec) (hb : c.code = cc) (hl : l.stackTraces = false) {own cls text : String} {names : List String} {ik is ic mc ms sa : Nat} {A : Nat → Prop}
    (hown : s.vm.findClass own = some m.cls) (hcls : Bundle.fit cls = true) (hnames : ∀ n ∈ names, Bundle.fit n = true)
    (hk : (Cond.classLink own ik cls).before args s = true) (hini : (Cond.initialized cls).before args s = true) (hstr : vk_R own is text sa s) (hat : ∀ w ∈ vx_atS own ic cls names, w.before args s = true)
    (hgood : ∀ w ∈ Cond.classLink own ik cls :: Cond.initialized cls :: vx_atS own ic cls names, vx_ot w = true)
    (hU : vx_Zq Bundle.tN "UNASSIGNED_STACK" Bundle.steD A s s.heap) (hN : vx_Zq Bundle.tN "SUPPRESSED_SENTINEL" Bundle.listD A s s.heap) (hS : va_S A s.heap H locs) (hsize : ls.size = c.maxLocals)
    (d0 : decode cc pc = .ok (.new ik, 3)) (d3 : decode cc (pc + 3) = .ok (.dup, 1)) (d4 : decode cc (pc + 4) = .ok (.ldc is, 2)) (d6 : decode cc (pc + 6) = .ok (.invokespecial ic, 3)) (d9 : decode cc (pc + 9) = .ok (.athrow, 1))
    (hout : ∀ x ∈ c.exceptionTable.toList, covers x (pc + 9) = false)
    (hRframes : names.length + 3 < R.frames) (hRlocals : (rest.map fun v => v.category).sum + (13 * (names.length + 1) + 43) ≤ R.locals) (hRcells : cells + 1 ≤ R.cells) (hRslots : slots + 6 ≤ R.slots) (hlocks : meth.locks = false)
    (hx : ∀ t : State, s.vm.Alike t.vm → H.size ≤ t.heap.size → (∀ q : Nat, q < H.size → t.heap[q]? = H[q]?) → XC cls s t)
    (hf : ∀ z ∈ locs, free z.base) (hc : cells + 1 ≤ mc) (hs : slots + 6 ≤ ms) :
    W p l e R s m args below meth c H locs cells slots (vx_MQ below Qc XC args s mc ms free) (F0 m pc ls rest) := by
  intro T hT X
  have htr : e.platform.stackTraces = false := (show e.platform.stackTraces = l.stackTraces by rw [X.admits.platform]).trans hl
  have Y := vx_rebase X (R' := { frames := R.frames, locals := R.locals, cells := 1, slots := 6 }) (Nat.le_refl _) (Nat.le_refl _) hRcells hRslots
  obtain ⟨s', hA⟩ : ∃ z, z = (T.setVm s.vm).setFrames (.invoking m args :: below) := ⟨_, rfl⟩
  rw [← hA] at Y
  have hvm : s'.vm = s.vm := by rw [hA]; rfl
  have hhp : s'.heap = H := by rw [hA]; exact hT
  have hW0 : s.WarmedH s'.vm := by rw [hvm]; exact State.WarmedH.refl s
  have hat' : ∀ w ∈ vx_atS own ic cls names, w.before args s' = true := fun w hw => vx_ot_at hW0 hvm.symm (hgood w (List.mem_cons_of_mem _ (List.mem_cons_of_mem _ hw))) (hat w hw)
  have hk' : (Cond.classLink own ik cls).before args s' = true := vx_ot_at hW0 hvm.symm (hgood _ List.mem_cons_self) hk
  have hini' : (Cond.initialized cls).before args s' = true := vx_ot_at hW0 hvm.symm (hgood _ (List.mem_cons_of_mem _ List.mem_cons_self)) hini
  have hU' : vx_Zq Bundle.tN "UNASSIGNED_STACK" Bundle.steD A s' s'.heap := by rw [hhp]; exact vx_Zq.moved hW0.alike (hU.kept hS.2.1)
  have hN' : vx_Zq Bundle.tN "SUPPRESSED_SENTINEL" Bundle.listD A s' s'.heap := by rw [hhp]; exact vx_Zq.moved hW0.alike (hN.kept hS.2.1)
  have h : ∀ w ∈ Bundle.ownAtoms own ic cls names, w.before args s' = true := vx_own hat' (vx_isRefq hU'.1) (vx_isRefq hN'.1) hU'.2.word hN'.2.word
  have hown' : s'.vm.findClass own = some m.cls := by rw [hvm]; exact hown
  have hins : (Cond.instantiable cls 6).before args s' = true := h _ (by simp [Bundle.ownAtoms])
  obtain ⟨vm₁, cX, kX, hfX, hkX, -, -, X₁, st1⟩ := Y.newCold hexec (own := own) (C := cls) (index := ik) (n := 6) hown' hk' hins hini'
    (g := F0 m pc ls rest) rfl (by rw [hb]; exact d0) (Nat.le_refl _) (Nat.le_refl _)
  generalize hT1 : (T.setVm vm₁).pushCell { cls := cX, slots := kX.instanceTypes.map defaultValue, vm := .none } = T1 at X₁ st1
  have hcat : (Value.ref T.heap.size).category = 1 := rfl
  have hcellA : T1.heap[T.heap.size]? = some (freshCell cX kX) := by rw [← hT1]; exact State.heap_pushCell_size _ _
  have d3' : decode c.code (pc + 3) = .ok (.dup, 1) := by rw [hb]; exact d3
  have d4' : decode c.code (pc + 4) = .ok (.ldc is, 2) := by rw [hb]; exact d4
  have hstr' : vk_R own is text sa s' := vk_R.warm hW0 hstr
  obtain ⟨U, hsteps, hrun, hend, hW, hsame, ce, hce, hO⟩ := X₁.ctorThrowS hexec htr (own := own) (cls := cls) (names := names) (ic := ic) hown' hcls hnames h (fun x hx => nomatch hx) hfX hkX hcellA (by rw [hhp, hT]; exact Nat.le_refl _) (msg := .ref sa) rfl
    (g := { method := m, pc := pc + 6, locals := ls, stack := .ref sa :: .ref T.heap.size :: .ref T.heap.size :: rest, locked := none }) rfl hsize rfl rfl (rest := rest) rfl
    (by rw [hb]; exact d6) (by rw [hb]; exact d9) hout hRframes (by simp only [List.map_cons, List.sum_cons, hcat]; omega) hlocks
  obtain ⟨f1, f2⟩ := vx_frame hsame
  rw [hhp] at f1 f2
  have hWs : s.WarmedH U.vm := State.WarmedH.trans hW0 hW
  have hcl : s.vm.findClass cls = some ce.cls := by
    have h9 := hO.cls
    rw [hvm] at h9
    exact h9
  have hall : s.sameButNew ({ U with vm := s.vm } : State) locs mc ms := by
    subst hA
    obtain ⟨e1, e2⟩ := hsame
    rw [State.setFrames_setFrames] at e1
    have h2 : (T.setVm s.vm).sameButNew ({ U with vm := s.vm } : State) [] (0 + 1) (0 + 6) := ⟨e1, e2⟩
    have h3 := X.same.trans h2
    rw [List.append_nil] at h3
    exact h3.mono hc hs
  refine ⟨U, ?_, .threw T.heap.size, hrun, hend, Or.inr ⟨T.heap.size, rfl, cls, ce, locs, hx U hWs.alike f1 (fun q hq => f2 q hq (fun z hz => nomatch hz)), hce, hO.vm, hcl, hWs, hall, hf⟩⟩
  refine st1 _ ?_
  show Steps p.tables e below (T1.setTop { method := m, pc := pc + 3, locals := ls, stack := .ref T.heap.size :: rest, locked := none }) _
  jvm_step X₁.here [X₁.here.top, hexec, d3', Value.category]
  exact X₁.ldcString hexec (own := own) (text := text) (index := is) (a := sa) hown' hstr'.1 hstr'.2
    (g := { method := m, pc := pc + 4, locals := ls, stack := .ref T.heap.size :: .ref T.heap.size :: rest, locked := none }) rfl d4' _ hsteps
/-- 'throw new E("text")', the text by a wide index -/
theorem vx_throwSW {cc : ByteArray} {pc : Nat} (hexec : p.tables.exec = Jvm.exec) (hb : c.code = cc) (hl : l.stackTraces = false) {own cls text : String} {names : List String} {ik is ic mc ms sa : Nat} {A : Nat → Prop}
    (hown : s.vm.findClass own = some m.cls) (hcls : Bundle.fit cls = true) (hnames : ∀ n ∈ names, Bundle.fit n = true)
    (hk : (Cond.classLink own ik cls).before args s = true) (hini : (Cond.initialized cls).before args s = true) (hstr : vk_R own is text sa s) (hat : ∀ w ∈ vx_atS own ic cls names, w.before args s = true)
    (hgood : ∀ w ∈ Cond.classLink own ik cls :: Cond.initialized cls :: vx_atS own ic cls names, vx_ot w = true)
    (hU : vx_Zq Bundle.tN "UNASSIGNED_STACK" Bundle.steD A s s.heap) (hN : vx_Zq Bundle.tN "SUPPRESSED_SENTINEL" Bundle.listD A s s.heap) (hS : va_S A s.heap H locs) (hsize : ls.size = c.maxLocals)
    (d0 : decode cc pc = .ok (.new ik, 3)) (d3 : decode cc (pc + 3) = .ok (.dup, 1)) (d4 : decode cc (pc + 4) = .ok (.ldc_w is, 3)) (d7 : decode cc (pc + 7) = .ok (.invokespecial ic, 3)) (d10 : decode cc (pc + 10) = .ok (.athrow, 1))
    (hout : ∀ x ∈ c.exceptionTable.toList, covers x (pc + 10) = false)
    (hRframes : names.length + 3 < R.frames) (hRlocals : (rest.map fun v => v.category).sum + (13 * (names.length + 1) + 43) ≤ R.locals) (hRcells : cells + 1 ≤ R.cells) (hRslots : slots + 6 ≤ R.slots) (hlocks : meth.locks = false)
    (hx : ∀ t : State, s.vm.Alike t.vm → H.size ≤ t.heap.size → (∀ q : Nat, q < H.size → t.heap[q]? = H[q]?) → XC cls s t)
    (hf : ∀ z ∈ locs, free z.base) (hc : cells + 1 ≤ mc) (hs : slots + 6 ≤ ms) :
    W p l e R s m args below meth c H locs cells slots (vx_MQ below Qc XC args s mc ms free) (F0 m pc ls rest) := by
  intro T hT X
  have htr : e.platform.stackTraces = false := (show e.platform.stackTraces = l.stackTraces by rw [X.admits.platform]).trans hl
  have Y := vx_rebase X (R' := { frames := R.frames, locals := R.locals, cells := 1, slots := 6 }) (Nat.le_refl _) (Nat.le_refl _) hRcells hRslots
  obtain ⟨s', hA⟩ : ∃ z, z = (T.setVm s.vm).setFrames (.invoking m args :: below) := ⟨_, rfl⟩
  rw [← hA] at Y
  have hvm : s'.vm = s.vm := by rw [hA]; rfl
  have hhp : s'.heap = H := by rw [hA]; exact hT
  have hW0 : s.WarmedH s'.vm := by rw [hvm]; exact State.WarmedH.refl s
  have hat' : ∀ w ∈ vx_atS own ic cls names, w.before args s' = true := fun w hw => vx_ot_at hW0 hvm.symm (hgood w (List.mem_cons_of_mem _ (List.mem_cons_of_mem _ hw))) (hat w hw)
  have hk' : (Cond.classLink own ik cls).before args s' = true := vx_ot_at hW0 hvm.symm (hgood _ List.mem_cons_self) hk
  have hini' : (Cond.initialized cls).before args s' = true := vx_ot_at hW0 hvm.symm (hgood _ (List.mem_cons_of_mem _ List.mem_cons_self)) hini
  have hU' : vx_Zq Bundle.tN "UNASSIGNED_STACK" Bundle.steD A s' s'.heap := by rw [hhp]; exact vx_Zq.moved hW0.alike (hU.kept hS.2.1)
  have hN' : vx_Zq Bundle.tN "SUPPRESSED_SENTINEL" Bundle.listD A s' s'.heap := by rw [hhp]; exact vx_Zq.moved hW0.alike (hN.kept hS.2.1)
  have h : ∀ w ∈ Bundle.ownAtoms own ic cls names, w.before args s' = true := vx_own hat' (vx_isRefq hU'.1) (vx_isRefq hN'.1) hU'.2.word hN'.2.word
  have hown' : s'.vm.findClass own = some m.cls := by rw [hvm]; exact hown
  have hins : (Cond.instantiable cls 6).before args s' = true := h _ (by simp [Bundle.ownAtoms])
  obtain ⟨vm₁, cX, kX, hfX, hkX, -, -, X₁, st1⟩ := Y.newCold hexec (own := own) (C := cls) (index := ik) (n := 6) hown' hk' hins hini'
    (g := F0 m pc ls rest) rfl (by rw [hb]; exact d0) (Nat.le_refl _) (Nat.le_refl _)
  generalize hT1 : (T.setVm vm₁).pushCell { cls := cX, slots := kX.instanceTypes.map defaultValue, vm := .none } = T1 at X₁ st1
  have hcat : (Value.ref T.heap.size).category = 1 := rfl
  have hcellA : T1.heap[T.heap.size]? = some (freshCell cX kX) := by rw [← hT1]; exact State.heap_pushCell_size _ _
  have d3' : decode c.code (pc + 3) = .ok (.dup, 1) := by rw [hb]; exact d3
  have d4' : decode c.code (pc + 4) = .ok (.ldc_w is, 3) := by rw [hb]; exact d4
  have hstr' : vk_R own is text sa s' := vk_R.warm hW0 hstr
  obtain ⟨U, hsteps, hrun, hend, hW, hsame, ce, hce, hO⟩ := X₁.ctorThrowS hexec htr (own := own) (cls := cls) (names := names) (ic := ic) hown' hcls hnames h (fun x hx => nomatch hx) hfX hkX hcellA (by rw [hhp, hT]; exact Nat.le_refl _) (msg := .ref sa) rfl
    (g := { method := m, pc := pc + 7, locals := ls, stack := .ref sa :: .ref T.heap.size :: .ref T.heap.size :: rest, locked := none }) rfl hsize rfl rfl (rest := rest) rfl
    (by rw [hb]; exact d7) (by rw [hb]; exact d10) hout hRframes (by simp only [List.map_cons, List.sum_cons, hcat]; omega) hlocks
  obtain ⟨f1, f2⟩ := vx_frame hsame
  rw [hhp] at f1 f2
  have hWs : s.WarmedH U.vm := State.WarmedH.trans hW0 hW
  have hcl : s.vm.findClass cls = some ce.cls := by
    have h9 := hO.cls
    rw [hvm] at h9
    exact h9
  have hall : s.sameButNew ({ U with vm := s.vm } : State) locs mc ms := by
    subst hA
    obtain ⟨e1, e2⟩ := hsame
    rw [State.setFrames_setFrames] at e1
    have h2 : (T.setVm s.vm).sameButNew ({ U with vm := s.vm } : State) [] (0 + 1) (0 + 6) := ⟨e1, e2⟩
    have h3 := X.same.trans h2
    rw [List.append_nil] at h3
    exact h3.mono hc hs
  refine ⟨U, ?_, .threw T.heap.size, hrun, hend, Or.inr ⟨T.heap.size, rfl, cls, ce, locs, hx U hWs.alike f1 (fun q hq => f2 q hq (fun z hz => nomatch hz)), hce, hO.vm, hcl, hWs, hall, hf⟩⟩
  refine st1 _ ?_
  show Steps p.tables e below (T1.setTop { method := m, pc := pc + 3, locals := ls, stack := .ref T.heap.size :: rest, locked := none }) _
  jvm_step X₁.here [X₁.here.top, hexec, d3', Value.category]
  exact X₁.ldcStringW hexec (own := own) (text := text) (index := is) (a := sa) hown' hstr'.1 hstr'.2
    (g := { method := m, pc := pc + 4, locals := ls, stack := .ref T.heap.size :: .ref T.heap.size :: rest, locked := none }) rfl d4' _ hsteps
end Ends
section Bodies
variable {l : Launch}
theorem vx_ofW {y : MethodName} {ws ws' : List Cond} {rm : Room} {Pc : Array Value → State → Prop} {Qc : Array Value → State → Outcome → State → Prop} {XC : String → State → State → Prop} {mc ms : Nat} {free : Addr → Prop} {cc : ByteArray} {maxL : Nat} {ret : Option FieldType}
    (hy : plainName y.cls = true) (hw : ws = Cond.code y cc maxL ret :: ws')
    (body : ∀ p e s m args below meth c s₁, BodyLoose p l y (headSpec ws rm) cc maxL ret e s m args below meth c s₁ → c.maxLocals = maxL → (∀ x ∈ c.exceptionTable.toList, False) → Pc args s →
      W p l e (headSpec ws rm).room s m args below meth c s.heap [] 0 0 (vx_MQ below Qc XC args s mc ms free) (entryFrame m args maxL)) : vx_Met l y ws rm Pc Qc XC mc ms free := by
  refine MetFree.of_bodyS (code := cc) (maxLocals := maxL) (ret := ret) hy ?_ ?_
  · intro args s m h hn
    obtain ⟨meth, c, h1, h2, h3, h4, h5, h6, -, -⟩ := Cond.code_spec hn (atoms_spec (ws := ws) h _ (by rw [hw]; exact List.mem_cons_self))
    exact ⟨meth, c, h1, h2, h3, h4, h5, h6⟩
  · intro p e s m args below meth c s₁ B hml hP _
    have hh0 : s₁.heap = s.heap := by rw [B.state]; rfl
    have ht : ∀ x ∈ c.exceptionTable.toList, False := by
      obtain ⟨meth9, c9, h1, h2, -, -, -, -, h7, -⟩ := Cond.code_spec B.named (atoms_spec (ws := ws) B.pre _ (by rw [hw]; exact List.mem_cons_self))
      cases Option.some.inj (h1.symm.trans B.method)
      cases Option.some.inj (h2.symm.trans (Stand.of_body B).code)
      intro x hx
      rw [Array.isEmpty_iff.mp h7] at hx
      cases hx
    obtain ⟨t, a1, o, b1, b2, b3⟩ := body p e s m args below meth c s₁ B hml ht hP s₁ hh0 (Stand.of_body B)
    exact ⟨t, o, a1, b1, b2, b3⟩
/-- the table of a body with handlers -/
theorem vx_table {p : Program} {x y : MethodName} {S : Spec} {cc bytes : ByteArray} {maxL maxL' : Nat} {ret ret' : Option FieldType} {e : Env} {s s₁ : State} {m : MethodId} {args : Array Value} {below : List Frame} {meth : Method} {c : Code} {hh : List (Nat × Nat × Nat × Nat)}
    (B : BodyLoose p l y S cc maxL ret e s m args below meth c s₁) (h : (Cond.codeWith y bytes maxL' ret' hh).before args s = true) : c.exceptionTable.toList = tableOf hh := by
  obtain ⟨m9, meth9, c9, hn9, h1, h2, -, -, h6, -⟩ := Cond.codeWith_spec h
  cases Option.some.inj (hn9.symm.trans B.named)
  cases Option.some.inj (h1.symm.trans B.method)
  cases Option.some.inj (h2.symm.trans (Stand.of_body B).code)
  rw [← h6, table_eq]
end Bodies
end VXA
/-! ===== END ===== -/
/-! ===== BEGIN a static call of a method with an exception table ===== -/
section VXS
variable {p : Program} {l : Launch} {e : Env} {R : Room} {s : State} {m : MethodId} {args : Array Value} {below : List Frame} {meth : Method} {c : Code} {T : State} {H : Heap} {locs : List Loc} {cells slots : Nat}
abbrev vx_CSW (R : Room) (s : State) (args : Array Value) (own : String) (index : Nat) (y : MethodName) (bytes : ByteArray) (maxL : Nat) (ret : Option FieldType) (hh : List (Nat × Nat × Nat × Nat)) (ws : List Cond) (rm : Room) (mc ms n : Nat) : Prop :=
  (rm.cells = mc ∧ rm.slots = ms ∧ rm.frames + 1 ≤ R.frames ∧ 8 + (maxL + 11) + rm.locals ≤ R.locals ∧ (∀ w ∈ ws, ∀ (a' : Array Value) (U : State), s.WarmedH U.vm → w.before a' U = true) ∧ Cond.codeWith y bytes maxL ret hh ∈ ws) ∧
  (Cond.codeWith y bytes maxL ret hh).before args s = true ∧ (Cond.initialized y.cls).before args s = true ∧ (y.cls ≠ "java/lang/invoke/MethodHandle" ∧ y.cls ≠ "java/lang/invoke/VarHandle") ∧
  (∀ sig, parseMethodDescriptor y.desc = some sig → n = sig.parameters.length) ∧ (Cond.methodLink own index y).before args s = true ∧ (Cond.static y).before args s = true
theorem vx_cwSW {own : String} {index maxL mc ms : Nat} {y : MethodName} {bytes : ByteArray} {ret : Option FieldType} {hh : List (Nat × Nat × Nat × Nat)} {Ts ws ws' : List Cond} {rm : Room} (n : Nat) (ht : ∀ w ∈ Ts, w.before args s = true) (hT : GoodIn Ts (va_wsS own index y ws)) (hw : ws = Cond.codeWith y bytes maxL ret hh :: ws') (hrc : rm.cells = mc) (hrs : rm.slots = ms)
    (hd : y.cls ≠ "java/lang/invoke/MethodHandle" ∧ y.cls ≠ "java/lang/invoke/VarHandle" ∧ (parseMethodDescriptor y.desc).map (fun d => d.parameters.length) = some n) (hR : rm.frames + 1 ≤ R.frames ∧ 8 + (maxL + 11) + rm.locals ≤ R.locals) :
    vx_CSW R s args own index y bytes maxL ret hh ws rm mc ms n := by
  have ok : ∀ w ∈ va_wsS own index y ws, w.before args s = true := fun w h => ht w (hT w h).1
  have hG : GoodIn Ts ws := fun w h => hT w (by unfold va_wsS; exact List.mem_append_right _ h)
  have hc : Cond.codeWith y bytes maxL ret hh ∈ ws := by rw [hw]; exact List.mem_cons_self
  refine ⟨⟨hrc, hrs, hR.1, hR.2, pay_in ht hG, hc⟩, ht _ (hG _ hc).1, ok _ (by simp [va_wsS]), ⟨hd.1, hd.2.1⟩, fun sig h => ?_, ok _ (by simp [va_wsS]), ok _ (by simp [va_wsS])⟩
  have h2 := hd.2.2
  rw [h] at h2
  exact (Option.some.inj h2).symm
theorem vx_callSW (X : Stand p l e R s m args below meth c T locs cells slots) (hexec : p.tables.exec = Jvm.exec) {own : String} {index : Nat} {y : MethodName} {bytes : ByteArray} {maxL : Nat} {ret : Option FieldType} {hh : List (Nat × Nat × Nat × Nat)}
    (hown : s.vm.findClass own = some m.cls) (hlink : (Cond.methodLink own index y).before args s = true) (hstat : (Cond.static y).before args s = true) (hinit : (Cond.initialized y.cls).before args s = true)
    (hcode : (Cond.codeWith y bytes maxL ret hh).before args s = true) (hy : y.cls ≠ "java/lang/invoke/MethodHandle" ∧ y.cls ≠ "java/lang/invoke/VarHandle")
    {W9 : Nat} {Pre : Pt → Array Value → Prop} {Post : Pt → Array Value → Option Value → Pt → Prop} (hK : Back l R p e below s args y 3 W9 Pre Post)
    {g : JFrame} (hg : g.method = m) (hsize : g.locals.size = c.maxLocals) {argsL rest : List Value} (hlen : ∀ sig, parseMethodDescriptor y.desc = some sig → argsL.length = sig.parameters.length)
    (hstack : g.stack = argsL.reverse ++ rest) (hW : 2 * g.monitorRoom + (rest.map fun v => v.category).sum ≤ W9) (hdg : decode c.code g.pc = .ok (.invokestatic index, 3))
    (hpre : ∀ vm₁, s.WarmedH vm₁ → Pre ⟨T.setVm vm₁, locs, cells, slots⟩ argsL.toArray) :
    ∃ (v : Option Value) (vm₁ : Vm) (B : Pt), s.WarmedH vm₁ ∧ Stand p l e R s m args below meth c B.U B.locs B.cells B.slots ∧ Post ⟨T.setVm vm₁, locs, cells, slots⟩ argsL.toArray v B ∧
      ∀ target, Steps p.tables e below (B.U.setTop { g with pc := g.pc + 3, stack := v.toList ++ rest }) target → Steps p.tables e below (T.setTop g) target := by
  obtain ⟨mk, methM, cM, hnamed, hmethM, -, -, -, -, -, -, hsigM⟩ := Cond.codeWith_spec hcode
  have hstatic : methM.isStatic = true := Cond.static_spec hnamed hmethM hstat
  obtain ⟨kP, hkP, -⟩ := className_of_methodNamed hnamed
  have hinitP : kP.init = .initialized := Cond.initialized_spec (findClass_of_methodNamed hnamed) hkP hinit
  obtain ⟨vm₁, X₁, hstep₁⟩ := X.invokestatic hexec hown hlink hnamed hmethM hstatic hkP hinitP hy (g := g) hg (argsL := argsL) (rest := rest) (hlen _ hsigM) hstack hdg
  obtain ⟨v, B, X', hpost, hsteps⟩ := hK m meth c ⟨T.setVm vm₁, locs, cells, slots⟩ { g with stack := rest } (.invokestatic index) mk argsL.toArray X₁ hg hsize hdg hW (X₁.named hnamed) (hpre vm₁ X₁.warmed)
  exact ⟨v, vm₁, B, X₁.warmed, X', hpost, fun target h => hstep₁ _ fun acts => by rw [doInvoke_state]; exact hsteps.trans h⟩
theorem vx_runSW {y : MethodName} {bytes cc : ByteArray} {maxL nL mc ms n index : Nat} {ret : Option FieldType} {hh : List (Nat × Nat × Nat × Nat)} {ws : List Cond} {rm : Room} {Pc : Array Value → State → Prop} {Qc : Array Value → State → Outcome → State → Prop} {free : Addr → Prop} {Ts : List Cond} {own : String} {As rest : List Value} {g : JFrame}
    (S : CallFix p m c cc nL s args Ts own) (hM : Met l y ws rm Pc Qc mc ms free) (cw : vx_CSW R s args own index y bytes maxL ret hh ws rm mc ms n) (hp : PreS s H Pc As)
    (hg : g.method = m) (hn : As.length = n) (hsize : g.locals.size = nL) (hstack : g.stack = As.reverse ++ rest) (hW : 2 * g.monitorRoom + (rest.map fun v => v.category).sum ≤ 8) (hdg : decode cc g.pc = .ok (.invokestatic index, 3)) (hf : cells + mc ≤ R.cells ∧ slots + ms ≤ R.slots) :
    va_Run p l e R s m args below meth c H locs cells slots mc ms g rest (Qc As.toArray) (free) := by
  obtain ⟨⟨hrc, hrs, hfr, hlo, hws, hcw⟩, hcode, hini, hy, hlen, hl, hstt⟩ := cw
  have hK : Back l R p e below s args y 3 8 (PreOf R mc ms Pc) (PostOf Qc mc ms free) := va_backW (hh := hh) (bytes := bytes) (maxL := maxL) (ret := ret) hM hp.1 hrc hrs hfr hlo hws hcw (fun a' U hW => word_at hW (Or.inl (by first | rfl | simp [Cond.onTables, Cond.keeps, Cond.steady])) hini)
  obtain ⟨hx, hb, hml, ho, -⟩ := S
  intro T hT X
  obtain ⟨v, vm₁, ⟨U', l2, c2, s2⟩, hW₁, X', ⟨g', mk, t, L, e1, e2, hq, h1, hL, h2, h3⟩, st⟩ := vx_callSW X hx (hh := hh) (bytes := bytes) (maxL := maxL) (ret := ret) ho hl hstt hini hcode hy hK hg (hsize.trans hml.symm) (argsL := As) (rest := rest) (fun sig h => hn.trans (hlen sig h)) hstack hW (by rw [hb]; exact hdg)
    (fun vm₁ hW₁ => ⟨hf.1, hf.2, hp.2 (T.setVm vm₁) hT hW₁⟩)
  dsimp only [Pt.U, Pt.locs, Pt.cells, Pt.slots] at X' e1 e2 h1 h2 h3 st
  subst h1; subst h2; subst h3
  exact ⟨v, (T.setVm vm₁).calling g' mk As.toArray, t, U', L, hT, X', hL, e1, e2, hq, st⟩
/-- not caught here, past rows that name other classes: it goes on to the caller -/
theorem vx_outP {p : Program} {l : Launch} {e : Env} {R : Room} {s : State} {m : MethodId} {args : Array Value} {below : List Frame} {meth : Method} {c : Code} {H : Heap} {locs : List Loc} {cells slots : Nat} {free : Addr → Prop} {ls : Array Slot} {rest : List Value} {Qc : Array Value → State → Outcome → State → Prop} {XC : String → State → State → Prop}
    {pc : Nat} {own E : String} {ce : Cell} {q : Addr} {mc ms : Nat} (hown : s.vm.findClass own = some m.cls) (hlocks : meth.locks = false)
    (hpass : ∀ z ∈ c.exceptionTable.toList, covers z pc = false ∨ (z.catchType ≠ 0 ∧ ∃ nm : String, (Cond.classLink own z.catchType nm).before args s = true ∧ va_Nc E nm s)) (hcell : H[q]? = some ce) (hv : ce.vm = .none) (hcl : s.vm.findClass E = some ce.cls)
    (hx : ∀ t : State, t.heap = H → s.vm.Alike t.vm → XC E s t) (hf : ∀ z ∈ locs, free z.base) (hc : cells ≤ mc) (hs : slots ≤ ms) :
    vx_W p l e R s m args below meth c H locs cells slots (vx_MQ below Qc XC args s mc ms free) (F0 m pc ls rest) q := by
  intro T hT X
  have hpl : e.platform.magicAccessors = ({} : Platform).magicAccessors := by rw [X.admits.platform]
  obtain ⟨vm', hW', X', st⟩ := X.outThrough hlocks q (g := F0 m pc ls rest) rfl rfl rfl (cell := ce) (by rw [hT]; exact hcell) (by rw [hv]; rfl)
    (by obtain ⟨k9, h9, -⟩ := Vm.findClass_spec hcl; exact ⟨k9, h9⟩) (fun z hz => by
      rcases hpass z hz with h | ⟨hz0, nm, hl1, hn1⟩
      · exact Or.inl h
      · obtain ⟨c6, hc6, hcl6⟩ := Cond.classLink_spec hown hl1 e.platform hpl
        obtain ⟨a8, b8, h1, h2, h3⟩ := hn1
        cases Option.some.inj (h1.symm.trans hcl)
        cases Option.some.inj (h2.symm.trans hc6)
        exact Or.inr ⟨hz0, _, hcl6, h3⟩)
  obtain ⟨g₀, hfr⟩ := X'.frames_eq
  have hcell9 : ((T.setVm vm').setFrames (.throwing q :: below)).heap[q]? = some ce := by
    show T.heap[q]? = some ce
    rw [hT]; exact hcell
  have hend : Ended ((T.setVm vm').setFrames (.throwing q :: below)) below (.threw q) := State.frames_setFrames _ (State.cur_lt_of_frames hfr)
  refine ⟨(T.setVm vm').setFrames (.throwing q :: below), ?_, .threw q, X'.here.running, hend, Or.inr ⟨q, rfl, E, ce, locs, hx _ hT (X'.ends _).1.alike, hcell9, hv, hcl, (X'.ends _).1, (X'.ends _).2.mono hc hs, hf⟩⟩
  rw [X.pushThrowing_eq]
  exact st
/-- a thing of a world lies in the heap -/
theorem vx_lt {D : va_G} {cl : List vw_C} {ws : va_W} {H1 : Heap} (h : va_P D cl ws H1) {k : Nat} {q : Nat × va_E} (hk : ws[k]? = some q) : q.1 < H1.size := (h k q hk).lt
end VXS
/-! ===== END ===== -/
/-! ===== BEGIN methods with a table of their own: called by a name, returning or throwing ===== -/
section VXH
/-! vx_backW, vx_callVX, vx_callSX, vx_callVW, vx_runVW, vx_runVX, vx_runSX, vx_ofWH follow the same proofs as their sisters above (Free/Laws.lean, Shelf42/LK1.lean); vx_outP calls Shelf42/NT130.lean (outThrough). -/
section
variable {l : Launch} {R : Room} {p : Program} {e : Env} {below : List Frame} {s : State} {sargs : Array Value} {y : MethodName} {len W9 : Nat}
theorem vx_backW {ws : List Cond} {rm : Room} {Pc : Array Value → State → Prop} {Qc : Array Value → State → Outcome → State → Prop} {XC : String → State → State → Prop} {mc ms : Nat} {free : Addr → Prop} {bytes : ByteArray} {maxL : Nat} {ret : Option FieldType} {hh : List (Nat × Nat × Nat × Nat)}
    (hM : vx_Met l y ws rm Pc Qc XC mc ms free) (hblind : FrameBlind Pc) (hrc : rm.cells = mc) (hrs : rm.slots = ms)
    (hframes : rm.frames + 1 ≤ R.frames) (hlocals : W9 + (maxL + 11) + rm.locals ≤ R.locals)
    (hws : ∀ w ∈ ws, ∀ a' U, s.WarmedH U.vm → w.before a' U = true) (hcode : Cond.codeWith y bytes maxL ret hh ∈ ws) (hinit : ∀ a' U, s.WarmedH U.vm → (Cond.initialized y.cls).before a' U = true) :
    vx_Back l R p e below s sargs y len W9 (PreOf R mc ms Pc) (PostOf Qc mc ms free) (vx_Post XC mc ms free) := by
  intro m meth c A g ig mk a X hg hsize hdg hW hn hp
  have h1 : (headSpec ws rm).pre.before a A.U = true := atoms_intro fun w hw => hws w hw _ _ X.warmed
  have h2 : (Cond.codeWith y bytes maxL ret hh).before a A.U = true := hws _ hcode _ _ X.warmed
  have h3 : (Cond.initialized y.cls).before a A.U = true := hinit _ _ X.warmed
  have h4 : A.cells + (headSpec ws rm).room.cells ≤ R.cells := by rw [show (headSpec ws rm).room.cells = mc from hrc]; exact hp.1
  have h5 : A.slots + (headSpec ws rm).room.slots ≤ R.slots := by rw [show (headSpec ws rm).room.slots = ms from hrs]; exact hp.2.1
  have hPc : Pc a (A.U.calling g mk a) := hblind _ _ _ _ hp.2.2
  obtain ⟨U, Ls, c0, s0⟩ := A
  dsimp only [Pt.U, Pt.locs, Pt.cells, Pt.slots] at h1 h2 h3 h4 h5 X hn hPc ⊢
  obtain ⟨m9, methY, cY, hn9, hmY, hcY, -, hlY, -⟩ := Cond.codeWith_spec h2
  cases Option.some.inj (hn9.symm.trans hn)
  obtain ⟨kY, hkY, -⟩ := className_of_methodNamed hn
  have hinitY : kY.init = .initialized := Cond.initialized_spec (findClass_of_methodNamed hn) hkY h3
  have h : At U g.method c below := by rw [hg]; exact X.here
  have hlocals9 : W9 + (maxL + 11) + (headSpec ws rm).room.locals ≤ R.locals := hlocals
  have happ : (headSpec ws rm).appliesLoose y e.platform (U.calling g mk a) = true :=
    Spec.appliesLoose_calling (g := g) h hdg hn hkY hinitY
      (X.room_calling (g := g) (R' := (headSpec ws rm).room) hsize hmY hcY hframes (by rw [hlY]; omega) h4 h5) h1
  obtain ⟨mid, hmid⟩ := h.above
  have hfr : (U.setTop g).frames = (.java g :: mid) ++ below := by rw [State.frames_setTop' g h.top, hmid]; rfl
  obtain ⟨o, s₂, hsteps, -, hend, hq⟩ := Steps.callFree hM p X.admits X.cas X.clock (acts := []) hfr happ hPc trivial
  have hq' : vx_Q Qc XC mc ms free a (U.calling g mk a) o s₂ := hq
  rw [State.frames_setTop' g h.top] at hend
  obtain ⟨g₀, hg0⟩ := Option.isSome_iff_exists.mp h.top
  obtain ⟨r, hr⟩ := State.topJava?_eq_some.mp hg0
  have hr' : (({ U with heap := s₂.heap, slotsUsed := s₂.slotsUsed } : State).setVm s₂.vm).frames = .java g₀ :: r := hr
  rcases hq' with ⟨hqc, L, hfe, hL⟩ | ⟨q, rfl, E, ce, L, hx, hce, hcv, hcl, hW₂, hsm, hL⟩
  · obtain ⟨⟨v, rfl⟩, hW₂, e2, q2, q3, q4, q5, q6⟩ := id hfe
    have e3 : s₂ = ({ (U.calling g mk a).setFrames s₂.frames with heap := s₂.heap, slotsUsed := s₂.slotsUsed } : State).setVm s₂.vm := by
      have : s₂ = ({ s₂ with vm := (U.calling g mk a).vm } : State).setVm s₂.vm := rfl
      rw [e2] at this
      exact this
    obtain ⟨c₂, i₂, len₂, hc₂, hd₂, hf₂⟩ := hend
    have hW' : U.WarmedH s₂.vm := hW₂
    have hcc : c₂ = c := by
      have h1 : s₂.code? g.method = U.code? g.method := by
        rw [State.code?_eq, State.code?_eq, hW'.alike.method?]
      exact Option.some.inj (hc₂.symm.trans (h1.trans h.code))
    subst hcc
    have hlen : len₂ = len := by rw [hdg] at hd₂; cases hd₂; rfl
    subst hlen
    have hs₂ : s₂ = (({ U with heap := s₂.heap, slotsUsed := s₂.slotsUsed } : State).setVm s₂.vm).setTop { g with pc := g.pc + len₂, stack := v.toList ++ g.stack } := by
      refine e3.trans ?_
      rw [hf₂, State.calling_eq h.top, State.setFrames_setFrames, State.setTop_of_frames _ hr', hr]
      rfl
    have hsame : U.sameButNew ({ U with heap := s₂.heap, slotsUsed := s₂.slotsUsed } : State) L mc ms := by
      refine ⟨?_, q2, q3, q4, q5, q6⟩
      obtain ⟨t, ht, -⟩ := State.frames_cons hr
      show ({ U with heap := s₂.heap, slotsUsed := s₂.slotsUsed } : State) = { U.setFrames U.frames with heap := s₂.heap, slotsUsed := s₂.slotsUsed }
      rw [State.setFrames_self ht]
    subst hg
    refine Or.inl ⟨v, ⟨(({ U with heap := s₂.heap, slotsUsed := s₂.slotsUsed } : State).setVm s₂.vm), Ls ++ L, c0 + mc, s0 + ms⟩,
      ⟨X.admits, X.cas, X.clock, X.frames, X.room, X.hears, X.method, X.code, (X.here.setHeapUsed s₂.heap s₂.slotsUsed).setVm hW'.alike, X.tail, State.WarmedH.trans X.warmed hW', X.limits, X.bytes, X.same.trans (hsame.setVm s.vm)⟩,
      ⟨g, mk, s₂, L, rfl, rfl, hqc, rfl, hL, rfl, rfl⟩, ?_⟩
    show Steps p.tables e below _ ((({ U with heap := s₂.heap, slotsUsed := s₂.slotsUsed } : State).setVm s₂.vm).setTop { g with pc := g.pc + len₂, stack := v.toList ++ g.stack })
    rw [← hs₂]
    exact hsteps
  · obtain ⟨e2, q2, q3, q4, q5, q6⟩ := id hsm
    have e3 : s₂ = ({ (U.calling g mk a).setFrames s₂.frames with heap := s₂.heap, slotsUsed := s₂.slotsUsed } : State).setVm s₂.vm := by
      have : s₂ = ({ s₂ with vm := (U.calling g mk a).vm } : State).setVm s₂.vm := rfl
      rw [e2] at this
      exact this
    have hf₂ : s₂.frames = .throwing q :: .java g :: U.frames.tail := hend
    have hW' : U.WarmedH s₂.vm := hW₂
    have hs₂ : s₂ = ((({ U with heap := s₂.heap, slotsUsed := s₂.slotsUsed } : State).setVm s₂.vm).setTop g).pushFrame (.throwing q) := by
      refine e3.trans ?_
      rw [hf₂, State.calling_eq h.top, State.setFrames_setFrames, State.pushFrame, State.frames_setTop _ hr', State.setTop_of_frames _ hr', State.setFrames_setFrames, hr]
      rfl
    have hsame : U.sameButNew ({ U with heap := s₂.heap, slotsUsed := s₂.slotsUsed } : State) L mc ms := by
      refine ⟨?_, q2, q3, q4, q5, q6⟩
      obtain ⟨t, ht, -⟩ := State.frames_cons hr
      show ({ U with heap := s₂.heap, slotsUsed := s₂.slotsUsed } : State) = { U.setFrames U.frames with heap := s₂.heap, slotsUsed := s₂.slotsUsed }
      rw [State.setFrames_self ht]
    subst hg
    refine Or.inr ⟨q, ⟨(({ U with heap := s₂.heap, slotsUsed := s₂.slotsUsed } : State).setVm s₂.vm), Ls ++ L, c0 + mc, s0 + ms⟩,
      ⟨X.admits, X.cas, X.clock, X.frames, X.room, X.hears, X.method, X.code, (X.here.setHeapUsed s₂.heap s₂.slotsUsed).setVm hW'.alike, X.tail, State.WarmedH.trans X.warmed hW', X.limits, X.bytes, X.same.trans (hsame.setVm s.vm)⟩,
      ⟨g, mk, s₂, L, E, ce, rfl, rfl, hx, hce, hcv, hcl, rfl, hL, rfl, rfl⟩, ?_⟩
    show Steps p.tables e below _ (((({ U with heap := s₂.heap, slotsUsed := s₂.slotsUsed } : State).setVm s₂.vm).setTop g).pushFrame (.throwing q))
    rw [← hs₂]
    exact hsteps
end
variable {p : Program} {l : Launch} {e : Env} {R : Room} {s : State} {m : MethodId} {args : Array Value} {below : List Frame} {meth : Method} {c : Code} {T : State} {H : Heap} {locs : List Loc} {cells slots : Nat}
theorem vx_callVX (X : Stand p l e R s m args below meth c T locs cells slots) (hexec : p.tables.exec = Jvm.exec) {own C : String} {index : Nat} {y : MethodName} {bytes : ByteArray} {maxL : Nat} {ret : Option FieldType} {hh : List (Nat × Nat × Nat × Nat)}
    (hown : s.vm.findClass own = some m.cls) (hlink : (Cond.methodLink own index y).before args s = true) (hinst : (Cond.instanceMethod y).before args s = true) (hsel : (Cond.selects C y y).before args s = true)
    (hcode : (Cond.codeWith y bytes maxL ret hh).before args s = true) (hy : y.cls ≠ "java/lang/invoke/MethodHandle" ∧ y.cls ≠ "java/lang/invoke/VarHandle")
    {W9 : Nat} {Pre : Pt → Array Value → Prop} {Post : Pt → Array Value → Option Value → Pt → Prop} {PostX : Pt → Array Value → Addr → Pt → Prop} (hK : vx_Back l R p e below s args y 3 W9 Pre Post PostX)
    {b : Addr} {cellB : Cell} (hcell : T.heap[b]? = some cellB) (hobj : cellB.vm.isStatics = false) (hcls : s.vm.findClass C = some cellB.cls)
    {g : JFrame} (hg : g.method = m) (hsize : g.locals.size = c.maxLocals) {argsL rest : List Value} (hlen : ∀ sig, parseMethodDescriptor y.desc = some sig → argsL.length = sig.parameters.length)
    (hstack : g.stack = argsL.reverse ++ .ref b :: rest) (hW : 2 * g.monitorRoom + (rest.map fun v => v.category).sum ≤ W9) (hdg : decode c.code g.pc = .ok (.invokevirtual index, 3))
    (hpre : ∀ vm₁, s.WarmedH vm₁ → Pre ⟨T.setVm vm₁, locs, cells, slots⟩ (Value.ref b :: argsL).toArray) :
    (∃ (v : Option Value) (vm₁ : Vm) (B : Pt), s.WarmedH vm₁ ∧ Stand p l e R s m args below meth c B.U B.locs B.cells B.slots ∧ Post ⟨T.setVm vm₁, locs, cells, slots⟩ (Value.ref b :: argsL).toArray v B ∧
      ∀ target, Steps p.tables e below (B.U.setTop { g with pc := g.pc + 3, stack := v.toList ++ rest }) target → Steps p.tables e below (T.setTop g) target) ∨
    (∃ (q : Addr) (vm₁ : Vm) (B : Pt), s.WarmedH vm₁ ∧ Stand p l e R s m args below meth c B.U B.locs B.cells B.slots ∧ PostX ⟨T.setVm vm₁, locs, cells, slots⟩ (Value.ref b :: argsL).toArray q B ∧
      Steps p.tables e below (T.setTop g) ((B.U.setTop { g with stack := rest }).pushFrame (.throwing q))) := by
  obtain ⟨mk, methM, hnamed, hmethM, hstM, habM⟩ := Cond.instanceMethod_spec hinst
  obtain ⟨m8, methM', cM, hn8, hmethM', -, -, -, -, -, -, hsigM⟩ := Cond.codeWith_spec hcode
  cases Option.some.inj (hn8.symm.trans hnamed)
  cases hmethM.symm.trans hmethM'
  obtain ⟨c2, r2, m2, q1, q2, q3, q4, kP, hkP, hkPi⟩ := Cond.selects_spec hsel
  cases hcls.symm.trans q1
  cases (State.methodFound?_of_named hnamed hy).symm.trans q2
  cases hnamed.symm.trans q3
  have hselP : selectMethod e.platform s.vm cellB.cls mk = .method mk := by rw [Launch.admits_selectMethod X.admits]; exact q4
  obtain ⟨vm₁, X₁, hstep₁⟩ := X.invokevirtual hexec hown hlink hnamed hmethM hstM hkP hkPi hy (a := b) (cell := cellB) hcell
    (fun z h => by rw [h] at hobj; cases hobj) hselP hmethM habM hkP hkPi (g := g) hg (argsL := argsL) (rest := rest) (hlen _ hsigM) hstack hdg
  rcases hK m meth c ⟨T.setVm vm₁, locs, cells, slots⟩ { g with stack := rest } (.invokevirtual index) mk (Value.ref b :: argsL).toArray X₁ hg hsize hdg hW (X₁.named hnamed) (hpre vm₁ X₁.warmed) with ⟨v, B, X', hpost, hsteps⟩ | ⟨q, B, X', hpost, hsteps⟩
  · exact Or.inl ⟨v, vm₁, B, X₁.warmed, X', hpost, fun target h => hstep₁ _ fun acts => by rw [doInvoke_state]; exact hsteps.trans h⟩
  · exact Or.inr ⟨q, vm₁, B, X₁.warmed, X', hpost, hstep₁ _ fun acts => by rw [doInvoke_state]; exact hsteps⟩
theorem vx_callSX (X : Stand p l e R s m args below meth c T locs cells slots) (hexec : p.tables.exec = Jvm.exec) {own : String} {index : Nat} {y : MethodName} {bytes : ByteArray} {maxL : Nat} {ret : Option FieldType} {hh : List (Nat × Nat × Nat × Nat)}
    (hown : s.vm.findClass own = some m.cls) (hlink : (Cond.methodLink own index y).before args s = true) (hstat : (Cond.static y).before args s = true) (hinit : (Cond.initialized y.cls).before args s = true)
    (hcode : (Cond.codeWith y bytes maxL ret hh).before args s = true) (hy : y.cls ≠ "java/lang/invoke/MethodHandle" ∧ y.cls ≠ "java/lang/invoke/VarHandle")
    {W9 : Nat} {Pre : Pt → Array Value → Prop} {Post : Pt → Array Value → Option Value → Pt → Prop} {PostX : Pt → Array Value → Addr → Pt → Prop} (hK : vx_Back l R p e below s args y 3 W9 Pre Post PostX)
    {g : JFrame} (hg : g.method = m) (hsize : g.locals.size = c.maxLocals) {argsL rest : List Value} (hlen : ∀ sig, parseMethodDescriptor y.desc = some sig → argsL.length = sig.parameters.length)
    (hstack : g.stack = argsL.reverse ++ rest) (hW : 2 * g.monitorRoom + (rest.map fun v => v.category).sum ≤ W9) (hdg : decode c.code g.pc = .ok (.invokestatic index, 3))
    (hpre : ∀ vm₁, s.WarmedH vm₁ → Pre ⟨T.setVm vm₁, locs, cells, slots⟩ argsL.toArray) :
    (∃ (v : Option Value) (vm₁ : Vm) (B : Pt), s.WarmedH vm₁ ∧ Stand p l e R s m args below meth c B.U B.locs B.cells B.slots ∧ Post ⟨T.setVm vm₁, locs, cells, slots⟩ argsL.toArray v B ∧
      ∀ target, Steps p.tables e below (B.U.setTop { g with pc := g.pc + 3, stack := v.toList ++ rest }) target → Steps p.tables e below (T.setTop g) target) ∨
    (∃ (q : Addr) (vm₁ : Vm) (B : Pt), s.WarmedH vm₁ ∧ Stand p l e R s m args below meth c B.U B.locs B.cells B.slots ∧ PostX ⟨T.setVm vm₁, locs, cells, slots⟩ argsL.toArray q B ∧
      Steps p.tables e below (T.setTop g) ((B.U.setTop { g with stack := rest }).pushFrame (.throwing q))) := by
  obtain ⟨mk, methM, cM, hnamed, hmethM, -, -, -, -, -, -, hsigM⟩ := Cond.codeWith_spec hcode
  have hstatic : methM.isStatic = true := Cond.static_spec hnamed hmethM hstat
  obtain ⟨kP, hkP, -⟩ := className_of_methodNamed hnamed
  have hinitP : kP.init = .initialized := Cond.initialized_spec (findClass_of_methodNamed hnamed) hkP hinit
  obtain ⟨vm₁, X₁, hstep₁⟩ := X.invokestatic hexec hown hlink hnamed hmethM hstatic hkP hinitP hy (g := g) hg (argsL := argsL) (rest := rest) (hlen _ hsigM) hstack hdg
  rcases hK m meth c ⟨T.setVm vm₁, locs, cells, slots⟩ { g with stack := rest } (.invokestatic index) mk argsL.toArray X₁ hg hsize hdg hW (X₁.named hnamed) (hpre vm₁ X₁.warmed) with ⟨v, B, X', hpost, hsteps⟩ | ⟨q, B, X', hpost, hsteps⟩
  · exact Or.inl ⟨v, vm₁, B, X₁.warmed, X', hpost, fun target h => hstep₁ _ fun acts => by rw [doInvoke_state]; exact hsteps.trans h⟩
  · exact Or.inr ⟨q, vm₁, B, X₁.warmed, X', hpost, hstep₁ _ fun acts => by rw [doInvoke_state]; exact hsteps⟩
theorem vx_callVW (X : Stand p l e R s m args below meth c T locs cells slots) (hexec : p.tables.exec = Jvm.exec) {own C : String} {index : Nat} {y : MethodName} {bytes : ByteArray} {maxL : Nat} {ret : Option FieldType} {hh : List (Nat × Nat × Nat × Nat)}
    (hown : s.vm.findClass own = some m.cls) (hlink : (Cond.methodLink own index y).before args s = true) (hinst : (Cond.instanceMethod y).before args s = true) (hsel : (Cond.selects C y y).before args s = true)
    (hcode : (Cond.codeWith y bytes maxL ret hh).before args s = true) (hy : y.cls ≠ "java/lang/invoke/MethodHandle" ∧ y.cls ≠ "java/lang/invoke/VarHandle")
    {W9 : Nat} {Pre : Pt → Array Value → Prop} {Post : Pt → Array Value → Option Value → Pt → Prop} (hK : Back l R p e below s args y 3 W9 Pre Post)
    {b : Addr} {cellB : Cell} (hcell : T.heap[b]? = some cellB) (hobj : cellB.vm.isStatics = false) (hcls : s.vm.findClass C = some cellB.cls)
    {g : JFrame} (hg : g.method = m) (hsize : g.locals.size = c.maxLocals) {argsL rest : List Value} (hlen : ∀ sig, parseMethodDescriptor y.desc = some sig → argsL.length = sig.parameters.length)
    (hstack : g.stack = argsL.reverse ++ .ref b :: rest) (hW : 2 * g.monitorRoom + (rest.map fun v => v.category).sum ≤ W9) (hdg : decode c.code g.pc = .ok (.invokevirtual index, 3))
    (hpre : ∀ vm₁, s.WarmedH vm₁ → Pre ⟨T.setVm vm₁, locs, cells, slots⟩ (Value.ref b :: argsL).toArray) :
    ∃ (v : Option Value) (vm₁ : Vm) (B : Pt), s.WarmedH vm₁ ∧ Stand p l e R s m args below meth c B.U B.locs B.cells B.slots ∧ Post ⟨T.setVm vm₁, locs, cells, slots⟩ (Value.ref b :: argsL).toArray v B ∧
      ∀ target, Steps p.tables e below (B.U.setTop { g with pc := g.pc + 3, stack := v.toList ++ rest }) target → Steps p.tables e below (T.setTop g) target := by
  obtain ⟨mk, methM, hnamed, hmethM, hstM, habM⟩ := Cond.instanceMethod_spec hinst
  obtain ⟨m8, methM', cM, hn8, hmethM', -, -, -, -, -, -, hsigM⟩ := Cond.codeWith_spec hcode
  cases Option.some.inj (hn8.symm.trans hnamed)
  cases hmethM.symm.trans hmethM'
  obtain ⟨c2, r2, m2, q1, q2, q3, q4, kP, hkP, hkPi⟩ := Cond.selects_spec hsel
  cases hcls.symm.trans q1
  cases (State.methodFound?_of_named hnamed hy).symm.trans q2
  cases hnamed.symm.trans q3
  have hselP : selectMethod e.platform s.vm cellB.cls mk = .method mk := by rw [Launch.admits_selectMethod X.admits]; exact q4
  obtain ⟨vm₁, X₁, hstep₁⟩ := X.invokevirtual hexec hown hlink hnamed hmethM hstM hkP hkPi hy (a := b) (cell := cellB) hcell
    (fun z h => by rw [h] at hobj; cases hobj) hselP hmethM habM hkP hkPi (g := g) hg (argsL := argsL) (rest := rest) (hlen _ hsigM) hstack hdg
  obtain ⟨v, B, X', hpost, hsteps⟩ := hK m meth c ⟨T.setVm vm₁, locs, cells, slots⟩ { g with stack := rest } (.invokevirtual index) mk (Value.ref b :: argsL).toArray X₁ hg hsize hdg hW (X₁.named hnamed) (hpre vm₁ X₁.warmed)
  exact ⟨v, vm₁, B, X₁.warmed, X', hpost, fun target h => hstep₁ _ fun acts => by rw [doInvoke_state]; exact hsteps.trans h⟩
abbrev vx_CVW (R : Room) (s : State) (args : Array Value) (own C : String) (index : Nat) (y : MethodName) (bytes : ByteArray) (maxL : Nat) (ret : Option FieldType) (hh : List (Nat × Nat × Nat × Nat)) (ws : List Cond) (rm : Room) (mc ms n : Nat) : Prop :=
  (rm.cells = mc ∧ rm.slots = ms ∧ rm.frames + 1 ≤ R.frames ∧ 8 + (maxL + 11) + rm.locals ≤ R.locals ∧ (∀ w ∈ ws, ∀ (a' : Array Value) (U : State), s.WarmedH U.vm → w.before a' U = true) ∧ Cond.codeWith y bytes maxL ret hh ∈ ws) ∧
  (Cond.codeWith y bytes maxL ret hh).before args s = true ∧ (Cond.initialized y.cls).before args s = true ∧ (y.cls ≠ "java/lang/invoke/MethodHandle" ∧ y.cls ≠ "java/lang/invoke/VarHandle") ∧
  (∀ sig, parseMethodDescriptor y.desc = some sig → n = sig.parameters.length) ∧ (Cond.methodLink own index y).before args s = true ∧ (Cond.instanceMethod y).before args s = true ∧ (Cond.selects C y y).before args s = true
theorem vx_cwVW {own C : String} {index maxL mc ms : Nat} {y : MethodName} {bytes : ByteArray} {ret : Option FieldType} {hh : List (Nat × Nat × Nat × Nat)} {Ts ws ws' : List Cond} {rm : Room} (n : Nat) (ht : ∀ w ∈ Ts, w.before args s = true) (hT : GoodIn Ts (wsV own index C y ws)) (hw : ws = Cond.codeWith y bytes maxL ret hh :: ws') (hrc : rm.cells = mc) (hrs : rm.slots = ms)
    (hd : y.cls = C ∧ y.cls ≠ "java/lang/invoke/MethodHandle" ∧ y.cls ≠ "java/lang/invoke/VarHandle" ∧ (parseMethodDescriptor y.desc).map (fun d => d.parameters.length) = some n) (hR : rm.frames + 1 ≤ R.frames ∧ 8 + (maxL + 11) + rm.locals ≤ R.locals) :
    vx_CVW R s args own C index y bytes maxL ret hh ws rm mc ms n := by
  obtain ⟨hC, hd⟩ := hd
  subst hC
  have ok : ∀ w ∈ wsV own index y.cls y ws, w.before args s = true := fun w h => ht w (hT w h).1
  have hG : GoodIn Ts ws := fun w h => hT w (by unfold wsV; exact List.mem_append_right _ h)
  have hc : Cond.codeWith y bytes maxL ret hh ∈ ws := by rw [hw]; exact List.mem_cons_self
  refine ⟨⟨hrc, hrs, hR.1, hR.2, pay_in ht hG, hc⟩, ht _ (hG _ hc).1, ok _ (by simp [wsV]), ⟨hd.1, hd.2.1⟩, fun sig h => ?_, ok _ (by simp [wsV]), ok _ (by simp [wsV]), ok _ (by simp [wsV])⟩
  have h2 := hd.2.2
  rw [h] at h2
  exact (Option.some.inj h2).symm
theorem vx_runVW {y : MethodName} {bytes cc : ByteArray} {maxL nL mc ms n index : Nat} {ret : Option FieldType} {hh : List (Nat × Nat × Nat × Nat)} {ws : List Cond} {rm : Room} {Pc : Array Value → State → Prop} {Qc : Array Value → State → Outcome → State → Prop} {free : Addr → Prop} {Ts : List Cond} {own C : String} {b : Addr} {As rest : List Value} {g : JFrame}
    (S : CallFix p m c cc nL s args Ts own) (hM : Met l y ws rm Pc Qc mc ms free) (cw : vx_CVW R s args own C index y bytes maxL ret hh ws rm mc ms n) (hp : PreV s H C b Pc As)
    (hg : g.method = m) (hn : As.length = n) (hsize : g.locals.size = nL) (hstack : g.stack = As.reverse ++ .ref b :: rest) (hW : 2 * g.monitorRoom + (rest.map fun v => v.category).sum ≤ 8) (hdg : decode cc g.pc = .ok (.invokevirtual index, 3)) (hf : cells + mc ≤ R.cells ∧ slots + ms ≤ R.slots) :
    va_Run p l e R s m args below meth c H locs cells slots mc ms g rest (Qc (Value.ref b :: As).toArray) free := by
  obtain ⟨⟨hrc, hrs, hfr, hlo, hws, hcw⟩, hcode, hini, hy, hlen, hl, hin, hse⟩ := cw
  have hK : Back l R p e below s args y 3 8 (PreOf R mc ms Pc) (PostOf Qc mc ms free) := va_backW (hh := hh) (bytes := bytes) (maxL := maxL) (ret := ret) hM hp.1 hrc hrs hfr hlo hws hcw (fun a' U hW => word_at hW (Or.inl (by first | rfl | simp [Cond.onTables, Cond.keeps, Cond.steady])) hini)
  obtain ⟨hx, hb, hml, ho, -⟩ := S
  obtain ⟨-, ⟨cellB, hcB, hoB, hclB⟩, hPc⟩ := hp
  intro T hT X
  obtain ⟨v, vm₁, ⟨U', l2, c2, s2⟩, hW₁, X', ⟨g', mk, t, L, e1, e2, hq, h1, hL, h2, h3⟩, st⟩ := vx_callVW X hx (C := C) (hh := hh) (bytes := bytes) (maxL := maxL) (ret := ret) ho hl hin hse hcode hy hK (by rw [hT]; exact hcB) hoB hclB hg (hsize.trans hml.symm) (argsL := As) (rest := rest) (fun sig h => hn.trans (hlen sig h)) hstack hW (by rw [hb]; exact hdg)
    (fun vm₁ hW₁ => ⟨hf.1, hf.2, hPc (T.setVm vm₁) hT hW₁⟩)
  dsimp only [Pt.U, Pt.locs, Pt.cells, Pt.slots] at X' e1 e2 h1 h2 h3 st
  subst h1; subst h2; subst h3
  exact ⟨v, (T.setVm vm₁).calling g' mk (Value.ref b :: As).toArray, t, U', L, hT, X', hL, e1, e2, hq, st⟩
section
variable {y : MethodName} {bytes cc : ByteArray} {maxL nL mc ms n index : Nat} {ret : Option FieldType} {ws : List Cond} {rm : Room} {Pc : Array Value → State → Prop} {Qc : Array Value → State → Outcome → State → Prop} {XC : String → State → State → Prop} {free : Addr → Prop} {Ts : List Cond} {own C : String} {b : Addr} {As rest : List Value} {g : JFrame}
theorem vx_runVX {hh : List (Nat × Nat × Nat × Nat)} (S : CallFix p m c cc nL s args Ts own) (hM : vx_Met l y ws rm Pc Qc XC mc ms free) (cw : vx_CVW R s args own C index y bytes maxL ret hh ws rm mc ms n) (hp : PreV s H C b Pc As)
    (hg : g.method = m) (hn : As.length = n) (hsize : g.locals.size = nL) (hstack : g.stack = As.reverse ++ .ref b :: rest) (hW : 2 * g.monitorRoom + (rest.map fun v => v.category).sum ≤ 8) (hdg : decode cc g.pc = .ok (.invokevirtual index, 3)) (hf : cells + mc ≤ R.cells ∧ slots + ms ≤ R.slots) :
    vx_Run p l e R s m args below meth c H locs cells slots mc ms g rest (Qc (Value.ref b :: As).toArray) XC free := by
  obtain ⟨⟨hrc, hrs, hfr, hlo, hws, hcw⟩, hcode, hini, hy, hlen, hl, hin, hse⟩ := cw
  have hK : vx_Back l R p e below s args y 3 8 (PreOf R mc ms Pc) (PostOf Qc mc ms free) (vx_Post XC mc ms free) := vx_backW (hh := hh) (bytes := bytes) (maxL := maxL) (ret := ret) hM hp.1 hrc hrs hfr hlo hws hcw (fun a' U hW => word_at hW (Or.inl (by first | rfl | simp [Cond.onTables, Cond.keeps, Cond.steady])) hini)
  obtain ⟨hx, hb, hml, ho, -⟩ := S
  obtain ⟨-, ⟨cellB, hcB, hoB, hclB⟩, hPc⟩ := hp
  intro T hT X
  rcases vx_callVX X hx (C := C) (hh := hh) (bytes := bytes) (maxL := maxL) (ret := ret) ho hl hin hse hcode hy hK (by rw [hT]; exact hcB) hoB hclB hg (hsize.trans hml.symm) (argsL := As) (rest := rest) (fun sig h => hn.trans (hlen sig h)) hstack hW (by rw [hb]; exact hdg)
    (fun vm₁ hW₁ => ⟨hf.1, hf.2, hPc (T.setVm vm₁) hT hW₁⟩) with ⟨v, vm₁, ⟨U', l2, c2, s2⟩, hW₁, X', ⟨g', mk, t, L, e1, e2, hq, h1, hL, h2, h3⟩, st⟩ | ⟨q, vm₁, ⟨U', l2, c2, s2⟩, hW₁, X', ⟨g', mk, t, L, E, ce, e1, e2, hq, hce, hcv, hcl, h1, hL, h2, h3⟩, st⟩
  · dsimp only [Pt.U, Pt.locs, Pt.cells, Pt.slots] at X' e1 e2 h1 h2 h3 st
    subst h1; subst h2; subst h3
    exact Or.inl ⟨v, (T.setVm vm₁).calling g' mk (Value.ref b :: As).toArray, t, U', L, hT, X', hL, e1, e2, hq, st⟩
  · dsimp only [Pt.U, Pt.locs, Pt.cells, Pt.slots] at X' e1 e2 h1 h2 h3 st hcl
    subst h1; subst h2; subst h3
    exact Or.inr ⟨q, (T.setVm vm₁).calling g' mk (Value.ref b :: As).toArray, t, U', L, E, ce, hT, X', hL, e1, e2, hq, hce, hcv, vx_cls hW₁ hcl, st⟩
theorem vx_runSX {hh : List (Nat × Nat × Nat × Nat)} (S : CallFix p m c cc nL s args Ts own) (hM : vx_Met l y ws rm Pc Qc XC mc ms free) (cw : vx_CSW R s args own index y bytes maxL ret hh ws rm mc ms n) (hp : PreS s H Pc As)
    (hg : g.method = m) (hn : As.length = n) (hsize : g.locals.size = nL) (hstack : g.stack = As.reverse ++ rest) (hW : 2 * g.monitorRoom + (rest.map fun v => v.category).sum ≤ 8) (hdg : decode cc g.pc = .ok (.invokestatic index, 3)) (hf : cells + mc ≤ R.cells ∧ slots + ms ≤ R.slots) :
    vx_Run p l e R s m args below meth c H locs cells slots mc ms g rest (Qc As.toArray) XC free := by
  obtain ⟨⟨hrc, hrs, hfr, hlo, hws, hcw⟩, hcode, hini, hy, hlen, hl, hstt⟩ := cw
  have hK : vx_Back l R p e below s args y 3 8 (PreOf R mc ms Pc) (PostOf Qc mc ms free) (vx_Post XC mc ms free) := vx_backW (hh := hh) (bytes := bytes) (maxL := maxL) (ret := ret) hM hp.1 hrc hrs hfr hlo hws hcw (fun a' U hW => word_at hW (Or.inl (by first | rfl | simp [Cond.onTables, Cond.keeps, Cond.steady])) hini)
  obtain ⟨hx, hb, hml, ho, -⟩ := S
  intro T hT X
  rcases vx_callSX X hx (hh := hh) (bytes := bytes) (maxL := maxL) (ret := ret) ho hl hstt hini hcode hy hK hg (hsize.trans hml.symm) (argsL := As) (rest := rest) (fun sig h => hn.trans (hlen sig h)) hstack hW (by rw [hb]; exact hdg)
    (fun vm₁ hW₁ => ⟨hf.1, hf.2, hp.2 (T.setVm vm₁) hT hW₁⟩) with ⟨v, vm₁, ⟨U', l2, c2, s2⟩, hW₁, X', ⟨g', mk, t, L, e1, e2, hq, h1, hL, h2, h3⟩, st⟩ | ⟨q, vm₁, ⟨U', l2, c2, s2⟩, hW₁, X', ⟨g', mk, t, L, E, ce, e1, e2, hq, hce, hcv, hcl, h1, hL, h2, h3⟩, st⟩
  · dsimp only [Pt.U, Pt.locs, Pt.cells, Pt.slots] at X' e1 e2 h1 h2 h3 st
    subst h1; subst h2; subst h3
    exact Or.inl ⟨v, (T.setVm vm₁).calling g' mk As.toArray, t, U', L, hT, X', hL, e1, e2, hq, st⟩
  · dsimp only [Pt.U, Pt.locs, Pt.cells, Pt.slots] at X' e1 e2 h1 h2 h3 st hcl
    subst h1; subst h2; subst h3
    exact Or.inr ⟨q, (T.setVm vm₁).calling g' mk As.toArray, t, U', L, E, ce, hT, X', hL, e1, e2, hq, hce, hcv, vx_cls hW₁ hcl, st⟩
end
end VXH
theorem vx_ofWH {l : Launch} {y : MethodName} {ws ws' : List Cond} {rm : Room} {Pc : Array Value → State → Prop} {Qc : Array Value → State → Outcome → State → Prop} {XC : String → State → State → Prop} {mc ms : Nat} {free : Addr → Prop} {cc : ByteArray} {maxL : Nat} {ret : Option FieldType} {hh : List (Nat × Nat × Nat × Nat)}
    (hy : plainName y.cls = true) (hw : ws = Cond.codeWith y cc maxL ret hh :: ws')
    (body : ∀ p e s m args below meth c s₁, BodyLoose p l y (headSpec ws rm) cc maxL ret e s m args below meth c s₁ → c.maxLocals = maxL → Pc args s →
      W p l e (headSpec ws rm).room s m args below meth c s.heap [] 0 0 (vx_MQ below Qc XC args s mc ms free) (entryFrame m args maxL)) : vx_Met l y ws rm Pc Qc XC mc ms free := by
  refine MetFree.of_bodyS (code := cc) (maxLocals := maxL) (ret := ret) hy ?_ ?_
  · intro args s m h hn
    obtain ⟨m9, meth, c, hn9, h1, h2, h3, h4, -, h5, h6, -⟩ := Cond.codeWith_spec (atoms_spec (ws := ws) h _ (by rw [hw]; exact List.mem_cons_self))
    cases hn.symm.trans hn9
    exact ⟨meth, c, h1, h2, h3, h4, h5, h6⟩
  · intro p e s m args below meth c s₁ B hml hP _
    have hh0 : s₁.heap = s.heap := by rw [B.state]; rfl
    obtain ⟨t, a1, o, b1, b2, b3⟩ := body p e s m args below meth c s₁ B hml hP s₁ hh0 (Stand.of_body B)
    exact ⟨t, o, a1, b1, b2, b3⟩
/-! ===== END ===== -/
/-! ===== BEGIN what the machine throws by itself, no traces kept ===== -/
section VXM
set_option maxHeartbeats 1000000 in
/-- the machine throws cls with the message text, no traces kept: from its note over the frame g to 'throwing' over the same frame (follows the proofs of Stand.vmThrowsMessage, Shelf/KitTracedVmS.lean, and Stand.throwsMessageColdBareV, StandMessageColdV.lean, without the step out of the frame) -/
theorem vx_vmAt {p : Program} {l : Launch} {e : Env} {R : Room} {s : State} {m₀ : MethodId} {args : Array Value} {below : List Frame} {meth : Method} {c : Code} {W : State} {locs : List Loc} {cells slots : Nat}
    (X : Stand p l e R s m₀ args below meth c W locs cells slots) (hexec : p.tables.exec = Jvm.exec) (htr : e.platform.stackTraces = false) {cls : String} {names : List String} {text : String}
    (hcls : Bundle.fit cls = true) (hnames : ∀ n ∈ names, Bundle.fit n = true) (hsoe : (cls == "java/lang/StackOverflowError") = false) (hoom : (cls == "java/lang/OutOfMemoryError") = false)
    (h : ∀ a ∈ Bundle.messageArmAtoms cls names, a.before args s = true)
    (hlocs : ∀ x ∈ locs, ∀ cell, s.heap[x.base]? = some cell → cell.vm.isStatics = false)
    (htext : (text == notModelled) = false) (hlimit : ¬ (stringBytes (stringToUtf16 text)).size > e.platform.arrayLengthLimit) (hheap : ¬ (stringBytes (stringToUtf16 text)).size * componentBytes .byte > e.platform.maxHeapBytes)
    {g : JFrame} (hg : g.method = m₀) (hsize : g.locals.size = c.maxLocals)
    (hRframes : names.length + 4 < R.frames) (hRlocals : 2 * g.monitorRoom + (g.stack.map fun v => v.category).sum + 10240 ≤ R.locals) (hshort : 13 * names.length + 55 ≤ 10240)
    (hRcells : cells + 3 ≤ R.cells) (hRslots : slots + ((stringBytes (stringToUtf16 text)).size + 4 + 6) ≤ R.slots) (hlocks : meth.locks = false) :
    ∃ (S : State) (q : Addr) (ce : Cell), (∀ target, Steps p.tables e below ((S.setTop g).pushFrame (.throwing q)) target → Steps p.tables e below ((W.setTop g).pushFrame (.throwNew cls (some text) none)) target) ∧
      Stand p l e R s m₀ args below meth c S locs (cells + 3) (slots + ((stringBytes (stringToUtf16 text)).size + 4 + 6)) ∧ S.heap[q]? = some ce ∧ s.vm.findClass cls = some ce.cls ∧ ce.vm = .none := by
  have howns : e.platform.frameOwnsMonitors = true := by rw [X.admits.platform]
  have hfin : e.platform.finalization = false := by rw [X.admits.platform]
  have hpl : e.platform.magicAccessors = ({} : Platform).magicAccessors := by rw [X.admits.platform]
  have a : ∀ x, x ∈ Bundle.messageArmAtoms cls names → x.holds args s none s [] = true := fun x hx => h x hx
  obtain ⟨T, Z0, L, -, Y⟩ := ThrowableC.of_atoms (args := args) howns hfin hpl (fun x hx => h x (by simp [Bundle.messageArmAtoms, hx]))
  obtain ⟨Z, M, LZ, LM, hnZ⟩ := Init0T.ofS_atoms (args := args) hpl L Y (fun x hx => h x (by simp [Bundle.messageArmAtoms, hx]))
  obtain ⟨P1, Ps, hlen, L1, hL, hP1m, hlink1, hlink⟩ := Bundle.chainS (args := args) hpl hnZ names cls hcls hnames (fun x hx => h x (by simp [Bundle.messageArmAtoms, hx]))
  obtain ⟨Zs, LZs, hn4, hfitv, hfitc⟩ := StringT.of_atoms (args := args) (fun x hx => h x (by simp [Bundle.messageArmAtoms, hx]))
  have hfound : s.vm.findClass cls = some P1.m.cls := findClass_of_methodNamed hP1m
  obtain ⟨c1, kX, hc1, hk, hord, -, -, hn6⟩ := Cond.instantiable_spec (a (.instantiable cls 6) (by simp [Bundle.messageArmAtoms]))
  cases Option.some.inj (hc1.symm.trans hfound)
  have hinit := Cond.initialized_spec hfound hk (a (.initialized cls) (by simp [Bundle.messageArmAtoms]))
  have hctor : kX.findMethod "<init>" "(Ljava/lang/String;)V" = some P1.m.idx := findMethod_of_methodNamed hP1m hk
  have hsel0 : selectMethod e.platform s.vm P1.m.cls T.fill0 = .method T.fill0 := by
    obtain ⟨c2, r2, m2, q1, q2, q3, q4, -⟩ := Cond.selects_spec (a (.selects cls Bundle.tFill0 Bundle.tFill0) (by simp [Bundle.messageArmAtoms]))
    cases Option.some.inj (q1.symm.trans hfound)
    cases Option.some.inj (q2.symm.trans (State.methodFound?_of_named Y.fill0 (by decide)))
    cases Option.some.inj (q3.symm.trans Y.fill0)
    rw [Launch.admits_selectMethod X.admits]; exact q4
  have hselF : selectMethod e.platform s.vm P1.m.cls T.fill = .method T.fill := by
    obtain ⟨c2, r2, m2, q1, q2, q3, q4, -⟩ := Cond.selects_spec (a (.selects cls Bundle.tFill Bundle.tFill) (by simp [Bundle.messageArmAtoms]))
    cases Option.some.inj (q1.symm.trans hfound)
    cases Option.some.inj (q2.symm.trans (State.methodFound?_of_named Y.fill (by decide)))
    cases Option.some.inj (q3.symm.trans Y.fill)
    rw [Launch.admits_selectMethod X.admits]; exact q4
  obtain ⟨cellS0, hcS0, hiss⟩ := Y.statics
  obtain ⟨u0, hu0⟩ := Cond.staticRefV Y.unassigned L.unassignedStatic L.statics hcS0 hiss (a (.isRef (.static Bundle.tN "UNASSIGNED_STACK" Bundle.steD)) (by simp [Bundle.messageArmAtoms]))
  obtain ⟨sen, hsen⟩ := Cond.staticRefV Y.sentinel L.sentinelStatic L.statics hcS0 hiss (a (.isRef (.static Bundle.tN "SUPPRESSED_SENTINEL" Bundle.listD)) (by simp [Bundle.messageArmAtoms]))
  obtain ⟨ci198, i198, fB, hk198, hg198, ha198, hsB, -, hnB, htB, hffB⟩ := Cond.ownField (t := .object "java/lang/Object") Y.found L.cls (by decide +kernel) (a (.fieldLink Bundle.tN 198 Bundle.tN "backtrace" "Ljava/lang/Object;") (by simp [Bundle.messageArmAtoms])) (a (.lays Bundle.tN Bundle.tN "backtrace" "Ljava/lang/Object;") (by simp [Bundle.messageArmAtoms])) e.platform hpl
  obtain ⟨cellS, hcS', heS, -, hkeep⟩ := X.same.2.2.2.2.2 T.aS cellS0 hcS0
  have hcellS : W.heap[T.aS]? = some cellS := hcS'
  have hout' : ∀ i, (⟨T.aS, i⟩ : Loc) ∉ locs := fun i hmem => by
    have := hlocs _ hmem cellS0 hcS0
    rw [hiss] at this; cases this
  have hknownS : cellS.vm ≠ .unknown := by
    rw [heS]; intro hu
    rw [show cellS0.vm = .unknown from hu] at hiss
    cases hiss
  have hvU : cellS.slots[T.fUnassigned.slot]? = some u0.v := by rw [hkeep _ (hout' _)]; exact hu0
  have hvSen : cellS.slots[T.fSentinel.slot]? = some sen.v := by rw [hkeep _ (hout' _)]; exact hsen
  obtain ⟨iM, hffM⟩ := Y.msg
  obtain ⟨tyC, dC, hdC, hdnC⟩ := Cond.laysAt hfound hk Y.cause (a (.lays cls Bundle.tN "cause" "Ljava/lang/Throwable;") (by simp [Bundle.messageArmAtoms]))
  obtain ⟨tyS, dS, hdS, hdnS⟩ := Cond.laysAt hfound hk Y.stack (a (.lays cls Bundle.tN "stackTrace" Bundle.steD) (by simp [Bundle.messageArmAtoms]))
  obtain ⟨tyP, dP, hdP, hdnP⟩ := Cond.laysAt hfound hk Y.supp (a (.lays cls Bundle.tN "suppressedExceptions" Bundle.listD) (by simp [Bundle.messageArmAtoms]))
  obtain ⟨tyM, dM, hdM, hdnM⟩ := Cond.laysAt hfound hk hffM (a (.lays cls Bundle.tN "detailMessage" "Ljava/lang/String;") (by simp [Bundle.messageArmAtoms]))
  obtain ⟨tyB, dB, hdB, hdnB⟩ := Cond.laysAt hfound hk hffB (a (.lays cls Bundle.tN "backtrace" "Ljava/lang/Object;") (by simp [Bundle.messageArmAtoms]))
  have bC := Cond.laysApart hdB hdC hdnB hdnC (by rw [hnB, Y.causeName]; decide)
  have bS := Cond.laysApart hdB hdS hdnB hdnS (by rw [hnB, Y.stackName]; decide)
  have bP := Cond.laysApart hdB hdP hdnB hdnP (by rw [hnB, Y.suppName]; decide)
  have hbk : ((preparedCellV T.toThrowableT (freshCell P1.m.cls kX) (W.heap.size + 2) u0 sen).withEntry W.cur).slots[fB.slot]? = some .null := by
    have := fresh_default (c := P1.m.cls) tyB
    rw [htB] at this
    simpa [preparedCellV, Cell.setSlot, Cell.withEntry, Array.getElem?_setIfInBounds, bC, bS, bP, bC.symm, bS.symm, bP.symm, defaultValue] using this
  have tkC := Takes.of_laid (v := .ref (W.heap.size + 2)) hk hord tyC (by rw [Y.causeType]; rfl)
  have tkS := Takes.of_laid (v := u0.v) hk hord tyS (by rw [Y.stackType]; exact fits_refV_array _ u0)
  have tkP := Takes.of_laid (v := sen.v) hk hord tyP (by rw [Y.suppType]; exact fits_refV_object _ sen)
  have tkM := Takes.of_laid (v := .ref (W.heap.size + 1)) hk hord tyM (by rw [Y.msgType]; rfl)
  have hskip : SkipFacts T e.platform s (fun u => u) u0 ((preparedCellV T.toThrowableT (freshCell P1.m.cls kX) (W.heap.size + 2) u0 sen).withEntry W.cur) := ⟨{ ci198 := ci198, i198 := i198, fBack := fB }, ⟨hk198, hg198, ha198, hsB⟩, hbk, fun _ _ => rfl⟩
  have h0 : At W g.method c below := by rw [hg]; exact X.here
  obtain ⟨hbeyond, hfreeW⟩ := X.vmMayThrow hsize (.throwNew cls (some text) none) (fun f hf => by cases hf) rfl hRlocals
  have hfr' : W.frames.length + Ps.length + 4 < (e.platform.stackLimits W.me).1 := by have := X.framesAbove hRframes; omega
  have hwd' : (stackUse (.java g :: W.frames.tail)).2 + 13 * Ps.length + 55 ≤ (e.platform.stackLimits W.me).2 := by have := X.stackAbove hsize (K := 13 * Ps.length + 55) (by omega); omega
  have hslots : W.slotsUsed + (stringBytes (stringToUtf16 text)).size + Zs.kS.instanceTypes.size + kX.instanceTypes.size ≤ e.platform.maxSlots := by
    have := X.slotsAbove hRslots
    rw [hn4, hn6]
    omega
  obtain ⟨vm', hW', st⟩ := Steps.vmThrowsMessageColdByV p (s₀ := s) (S := W) (g := g) h0 hexec T L Z LZ M LM X.warmed (t := W.cur) rfl Zs LZs P1 L1 Ps hL hlink1 hlink hsoe hoom hfound hk hinit hord hctor
    (Launch.admits_hotImplicitExceptions X.admits) hbeyond hfreeW htext hlimit hheap (X.cellsAbove hRcells) hslots (hfitv _) (hfitc _)
    (Nn := fun u => u) heapOnly_id (fun _ _ => rfl) (fun _ => rfl) (fun u x y => setCell_twice _ _ _ _) (fun _ => Nat.le_refl _) (cN := ((preparedCellV T.toThrowableT (freshCell P1.m.cls kX) (W.heap.size + 2) u0 sen).withEntry W.cur))
    hsel0 hcellS hknownS hvU tkS (fun _ hu => hu) (fun _ hu => hu) rfl rfl rfl (by simp [preparedCellV, Cell.setSlot, Cell.withEntry]) hskip (fun _ _ hA hW _ hroom _ hrest => L.nativeOff p htr hA hW hroom hrest) hselF hvSen tkC tkP tkM Y.objLocals rfl hfr' hwd'
  rw [plainBareV_eq T.toThrowableT (W.heap.size + 2) u0 sen (.ref (W.heap.size + 1)) W.cur rfl rfl] at st
  obtain ⟨-, -, w3, w4, -, -, -⟩ := withThrown_facts e.platform W Zs text P1.m.cls kX
  have X3 := ((X.pushed (bytesOf Zs.cB (stringToUtf16 text))).pushed (stringAt Zs.cS Zs.kS Zs.fv Zs.fc (stringToUtf16 text) W.heap.size)).pushed (freshCell P1.m.cls kX)
  rw [← withString_eq] at X3
  have X4 := X3.noted hW'
  have ha : (W.heap.size + 2) < ((withThrown W Zs text P1.m.cls kX).setVm vm').heap.size := by show _ < (withThrown W Zs text P1.m.cls kX).heap.size; rw [w3]; omega
  have hcell : ((withThrown W Zs text P1.m.cls kX).setVm vm').heap[(W.heap.size + 2)]? = some (freshCell P1.m.cls kX) := w4
  have X5 := ((((X4.stored hcell T.fCause.slot (.ref (W.heap.size + 2))).storedAgain ha T.fStack.slot u0.v).storedAgain ha T.fSupp.slot sen.v).storedAgain ha T.fStack.slot u0.v).storedAgain ha T.fMsg.slot (.ref (W.heap.size + 1))
  obtain ⟨g₁, hfrM⟩ := X5.frames_eq
  have hU : ((((withThrown W Zs text P1.m.cls kX).setVm vm').setCell (W.heap.size + 2) (plainBareV T.toThrowableT (freshCell P1.m.cls kX) (W.heap.size + 2) u0 sen (.ref (W.heap.size + 1)))).setTop g).pushFrame (.throwing (W.heap.size + 2)) = (((withThrown W Zs text P1.m.cls kX).setVm vm').setCell (W.heap.size + 2) (plainBareV T.toThrowableT (freshCell P1.m.cls kX) (W.heap.size + 2) u0 sen (.ref (W.heap.size + 1)))).setFrames (.throwing (W.heap.size + 2) :: .java g :: below) := by
    rw [State.pushFrame, State.frames_setTop _ hfrM, State.setTop_of_frames _ hfrM, State.setFrames_setFrames]
  have b1 : (bytesOf Zs.cB (stringToUtf16 text)).slots.size = (stringBytes (stringToUtf16 text)).size := by
    rw [(Cell.writeAll_facts _ _).2.2]; simp [bytes0]
  have b2 : (stringAt Zs.cS Zs.kS Zs.fv Zs.fc (stringToUtf16 text) W.heap.size).slots.size = 4 := by simp [string0, Cell.setSlot, hn4]
  have b3 : (freshCell P1.m.cls kX).slots.size = 6 := by simp [hn6]
  rw [b1, b2, b3] at X5
  have e9 : slots + (stringBytes (stringToUtf16 text)).size + 4 + 6 = slots + ((stringBytes (stringToUtf16 text)).size + 4 + 6) := by omega
  rw [e9] at X5
  simp only [List.append_assoc, List.cons_append, List.nil_append] at X5
  refine ⟨((withThrown W Zs text P1.m.cls kX).setVm vm').setCell (W.heap.size + 2) (plainBareV T.toThrowableT (freshCell P1.m.cls kX) (W.heap.size + 2) u0 sen (.ref (W.heap.size + 1))), W.heap.size + 2, _, fun target ht => st _ (by rw [X.tail, ← hU]; exact ht),
    X5.forget (fun y hy => ?_), heapAt_setCell_self _ ha, hfound, rfl⟩
  simp only [List.mem_cons, List.not_mem_nil, or_false] at hy
  have hge : s.heap.size ≤ W.heap.size := X.same.2.1
  rcases hy with rfl | rfl | rfl | rfl | rfl <;> exact Nat.le_trans hge (Nat.le_add_right _ 2)
set_option maxHeartbeats 1000000 in
/-- the machine throws NullPointerException, no traces kept: from its note over the frame g to 'throwing' over the same frame (follows the proof of Stand.vmThrowsNpe, Shelf42/KT2.lean; throwsNpeColdBareVAt, Shelf42/NT91.lean, called) -/
theorem vx_npeAt {p : Program} {l : Launch} {e : Env} {R : Room} {s : State} {m₀ : MethodId} {args : Array Value} {below : List Frame} {meth : Method} {c : Code} {W : State} {locs : List Loc} {cells slots : Nat}
    (X : Stand p l e R s m₀ args below meth c W locs cells slots) (hexec : p.tables.exec = Jvm.exec) (htr : e.platform.stackTraces = false) {n : Nat}
    (h : ∀ a ∈ Bundle.npeArmAtoms n, a.before args s = true)
    (hlocs : ∀ x ∈ locs, ∀ cell, s.heap[x.base]? = some cell → cell.vm.isStatics = false)
    {g : JFrame} (hg : g.method = m₀) (hsize : g.locals.size = c.maxLocals)
    (hRframes : 7 < R.frames) (hRlocals : 2 * g.monitorRoom + (g.stack.map fun v => v.category).sum + 10240 ≤ R.locals)
    (hRcells : cells + 1 ≤ R.cells) (hRslots : slots + n ≤ R.slots) (hlocks : meth.locks = false) :
    ∃ (S : State) (q : Addr) (ce : Cell), (∀ target, Steps p.tables e below ((S.setTop g).pushFrame (.throwing q)) target → Steps p.tables e below ((W.setTop g).pushFrame (.throwNew "java/lang/NullPointerException" none none)) target) ∧
      Stand p l e R s m₀ args below meth c S locs (cells + 1) (slots + n) ∧ S.heap[q]? = some ce ∧ s.vm.findClass "java/lang/NullPointerException" = some ce.cls ∧ ce.vm = .none := by
  have howns : e.platform.frameOwnsMonitors = true := by rw [X.admits.platform]
  have hfin : e.platform.finalization = false := by rw [X.admits.platform]
  have hpl : e.platform.magicAccessors = ({} : Platform).magicAccessors := by rw [X.admits.platform]
  have hpl2 : e.platform.arrayCloneIsPublic = true := by rw [X.admits.platform]
  have a' : ∀ x, x ∈ Bundle.npeArmAtoms n → x.holds args s none s [] = true := fun x hx => h x hx
  obtain ⟨T, Z, L, LZ, Y⟩ := ThrowableC.of_atoms (args := args) howns hfin hpl (fun x hx => h x (by simp [Bundle.npeArmAtoms, hx]))
  obtain ⟨N, LN, hcN, hnNF, hordN, hffS⟩ := NpeC.of_atoms (args := args) hpl hpl2 L Y (fun x hx => h x (by simp [Bundle.npeArmAtoms, hx]))
  obtain ⟨P1, L1, hP1m, hP1s⟩ := PassC.of_atoms (args := args) (s := s) hpl (X := Bundle.nN) (Y := Bundle.rN) (by decide) (by decide) LibCode.NullPointerException.Init0.at_0 LibCode.NullPointerException.Init0.at_1 LibCode.NullPointerException.Init0.at_4 (fun x hx => h x (by simp [Bundle.npeArmAtoms, hx]))
  obtain ⟨PR, LR, hPRm, hPRs⟩ := PassC.of_atoms (args := args) (s := s) hpl (X := Bundle.rN) (Y := Bundle.eN) (by decide) (by decide) LibCode.RuntimeException.Init0.at_0 LibCode.RuntimeException.Init0.at_1 LibCode.RuntimeException.Init0.at_4 (fun x hx => h x (by simp [Bundle.npeArmAtoms, hx]))
  obtain ⟨PE, LEx, hPEm, hPEs⟩ := PassC.of_atoms (args := args) (s := s) hpl (X := Bundle.eN) (Y := Bundle.tN) (by decide) (by decide) LibCode.Exception.Init0.at_0 LibCode.Exception.Init0.at_1 LibCode.Exception.Init0.at_4 (fun x hx => h x (by simp [Bundle.npeArmAtoms, hx]))
  have hfound : s.vm.findClass Bundle.nN = some P1.m.cls := findClass_of_methodNamed hP1m
  have ecls : N.cN = P1.m.cls := Option.some.inj (hcN.symm.trans hfound)
  have hk : s.vm.classes[P1.m.cls]? = some N.kN := by rw [← ecls]; exact LN.cls
  have hinit := Cond.initialized_spec hfound hk (a' (.initialized Bundle.nN) (by simp [Bundle.npeArmAtoms]))
  have hctor : N.kN.findMethod "<init>" "()V" = some P1.m.idx := findMethod_of_methodNamed hP1m hk
  obtain ⟨c1, k1, hc1, hk1, -, -, -, hn⟩ := Cond.instantiable_spec (a' (.instantiable Bundle.nN n) (by simp [Bundle.npeArmAtoms]))
  cases Option.some.inj (hc1.symm.trans hfound)
  cases Option.some.inj (hk1.symm.trans hk)
  have hfsz : (freshCell P1.m.cls N.kN).slots.size = n := by simp [hn]
  have hlink1 : P1.sup = PR.m := Option.some.inj (hP1s.symm.trans hPRm)
  have hlinkR : PR.sup = PE.m := Option.some.inj (hPRs.symm.trans hPEm)
  have hlinkE : PE.sup = Z.m T.toThrowableT := Option.some.inj (hPEs.symm.trans Y.init0)
  have hLs : ∀ P, P ∈ [PR, PE] → P.Links0 e.platform s := fun P hP => by
    simp only [List.mem_cons, List.not_mem_nil, or_false] at hP
    rcases hP with rfl | rfl
    · exact LR
    · exact LEx
  have hsel0 : selectMethod e.platform s.vm P1.m.cls T.fill0 = .method T.fill0 := by
    obtain ⟨c2, r2, m2, q1, q2, q3, q4, -⟩ := Cond.selects_spec (a' (.selects Bundle.nN Bundle.tFill0 Bundle.tFill0) (by simp [Bundle.npeArmAtoms]))
    cases Option.some.inj (q1.symm.trans hfound)
    cases Option.some.inj (q2.symm.trans (State.methodFound?_of_named Y.fill0 (by decide)))
    cases Option.some.inj (q3.symm.trans Y.fill0)
    rw [Launch.admits_selectMethod X.admits]; exact q4
  have hselF : selectMethod e.platform s.vm P1.m.cls T.fill = .method N.fill := by
    obtain ⟨c2, r2, m2, q1, q2, q3, q4, -⟩ := Cond.selects_spec (a' (.selects Bundle.nN Bundle.tFill Bundle.nFill) (by simp [Bundle.npeArmAtoms]))
    cases Option.some.inj (q1.symm.trans hfound)
    cases Option.some.inj (q2.symm.trans (State.methodFound?_of_named Y.fill (by decide)))
    cases Option.some.inj (q3.symm.trans hnNF)
    rw [Launch.admits_selectMethod X.admits]; exact q4
  obtain ⟨cellS0, hcS0, hiss⟩ := Y.statics
  obtain ⟨u0, hu0⟩ := Cond.staticRefV Y.unassigned L.unassignedStatic L.statics hcS0 hiss (a' (.isRef (.static Bundle.tN "UNASSIGNED_STACK" Bundle.steD)) (by simp [Bundle.npeArmAtoms]))
  obtain ⟨sen, hsen⟩ := Cond.staticRefV Y.sentinel L.sentinelStatic L.statics hcS0 hiss (a' (.isRef (.static Bundle.tN "SUPPRESSED_SENTINEL" Bundle.listD)) (by simp [Bundle.npeArmAtoms]))
  obtain ⟨ci198, i198, fB, hk198, hg198, ha198, hsB, -, hnB, htB, hffB⟩ := Cond.ownField (t := .object "java/lang/Object") Y.found L.cls (by decide +kernel) (a' (.fieldLink Bundle.tN 198 Bundle.tN "backtrace" Bundle.objD) (by simp [Bundle.npeArmAtoms])) (a' (.lays Bundle.tN Bundle.tN "backtrace" Bundle.objD) (by simp [Bundle.npeArmAtoms])) e.platform hpl
  obtain ⟨cellS, hcS', heS, -, hkeep⟩ := X.same.2.2.2.2.2 T.aS cellS0 hcS0
  have hcellS : W.heap[T.aS]? = some cellS := hcS'
  have hout' : ∀ i, (⟨T.aS, i⟩ : Loc) ∉ locs := fun i hmem => by
    have := hlocs _ hmem cellS0 hcS0
    rw [hiss] at this; cases this
  have hknownS : cellS.vm ≠ .unknown := by
    rw [heS]; intro hu
    rw [show cellS0.vm = .unknown from hu] at hiss
    cases hiss
  have hvU : cellS.slots[T.fUnassigned.slot]? = some u0.v := by rw [hkeep _ (hout' _)]; exact hu0
  have hvSen : cellS.slots[T.fSentinel.slot]? = some sen.v := by rw [hkeep _ (hout' _)]; exact hsen
  obtain ⟨tyC, dC, hdC, hdnC⟩ := Cond.laysAt hfound hk Y.cause (a' (.lays Bundle.nN Bundle.tN "cause" "Ljava/lang/Throwable;") (by simp [Bundle.npeArmAtoms]))
  obtain ⟨tyS, dS, hdS, hdnS⟩ := Cond.laysAt hfound hk Y.stack (a' (.lays Bundle.nN Bundle.tN "stackTrace" Bundle.steD) (by simp [Bundle.npeArmAtoms]))
  obtain ⟨tyP, dP, hdP, hdnP⟩ := Cond.laysAt hfound hk Y.supp (a' (.lays Bundle.nN Bundle.tN "suppressedExceptions" Bundle.listD) (by simp [Bundle.npeArmAtoms]))
  obtain ⟨tyX, dX, hdX, hdnX⟩ := Cond.laysAt hfound hk hffS (a' (.lays Bundle.nN Bundle.nN "extendedMessageState" "I") (by simp [Bundle.npeArmAtoms, Bundle.npeAtoms]))
  obtain ⟨hnX, htX⟩ := State.fieldFound?_type hffS (t := .int) (by decide +kernel)
  have xC := Cond.laysApart hdC hdX hdnC hdnX (by rw [hnX, Y.causeName]; decide)
  have xS := Cond.laysApart hdS hdX hdnS hdnX (by rw [hnX, Y.stackName]; decide)
  have xP := Cond.laysApart hdP hdX hdnP hdnX (by rw [hnX, Y.suppName]; decide)
  have hv0 : (freshCell P1.m.cls N.kN).slots[N.fState.slot]? = some (.int 0) := by
    have := fresh_default (c := P1.m.cls) tyX
    rw [htX] at this; exact this
  obtain ⟨tyB, dB, hdB, hdnB⟩ := Cond.laysAt hfound hk hffB (a' (.lays Bundle.nN Bundle.tN "backtrace" Bundle.objD) (by simp [Bundle.npeArmAtoms]))
  have bC := Cond.laysApart hdB hdC hdnB hdnC (by rw [hnB, Y.causeName]; decide)
  have bS := Cond.laysApart hdB hdS hdnB hdnS (by rw [hnB, Y.stackName]; decide)
  have bP := Cond.laysApart hdB hdP hdnB hdnP (by rw [hnB, Y.suppName]; decide)
  have bX := Cond.laysApart hdB hdX hdnB hdnX (by rw [hnB, hnX]; decide)
  have hbk : ((npeCell N.toNpeT (preparedCellV T.toThrowableT (freshCell P1.m.cls N.kN) W.heap.size u0 sen) W.cur).withEntry W.cur).slots[fB.slot]? = some .null := by
    have := fresh_default (c := P1.m.cls) tyB
    rw [htB] at this
    simpa [npeCell, preparedCellV, Cell.setSlot, Cell.withEntry, Array.getElem?_setIfInBounds, bC, bS, bP, bX, bC.symm, bS.symm, bP.symm, bX.symm, defaultValue] using this
  have tkC := Takes.of_laid (v := .ref W.heap.size) hk hordN tyC (by rw [Y.causeType]; rfl)
  have tkS := Takes.of_laid (v := u0.v) hk hordN tyS (by rw [Y.stackType]; exact fits_refV_array _ u0)
  have tkP := Takes.of_laid (v := sen.v) hk hordN tyP (by rw [Y.suppType]; exact fits_refV_object _ sen)
  have tkX := Takes.of_laid (v := .int 1) hk hordN tyX (by rw [htX]; rfl)
  have hskip : SkipFacts T e.platform s (fun u => u) u0 ((npeCell N.toNpeT (preparedCellV T.toThrowableT (freshCell P1.m.cls N.kN) W.heap.size u0 sen) W.cur).withEntry W.cur) := ⟨{ ci198 := ci198, i198 := i198, fBack := fB }, ⟨hk198, hg198, ha198, hsB⟩, hbk, fun _ _ => rfl⟩
  obtain ⟨vm', X3, st, -⟩ := X.throwsNpeColdBareVAt hexec hg hsize T L Z LZ N LN P1 L1 [PR, PE] hLs hlink1 ⟨hlinkR, hlinkE, trivial⟩ hfound hk hinit hordN hctor hsel0 hselF hcellS hknownS hvU hvSen
    hv0 xC xS xP tkC tkS tkP tkX Y.objLocals hskip (fun _ _ hA hW _ hroom _ hrest => L.nativeOff p htr hA hW hroom hrest) (by simpa using hRframes) hRlocals (by simp) hRcells (by rw [hn]; exact hRslots)
  have hlt : W.heap.size < ((W.pushCell (freshCell P1.m.cls N.kN)).setVm vm').heap.size := by
    show W.heap.size < (W.pushCell (freshCell P1.m.cls N.kN)).heap.size
    rw [State.heap_size_pushCell]; omega
  rw [hfsz] at X3
  obtain ⟨g₁, hfrM⟩ := X3.frames_eq
  have hU : ((((W.pushCell (freshCell P1.m.cls N.kN)).setVm vm').setCell W.heap.size (npeBareV T.toThrowableT N.toNpeT (freshCell P1.m.cls N.kN) W.heap.size u0 sen)).setTop g).pushFrame (.throwing W.heap.size) = (((W.pushCell (freshCell P1.m.cls N.kN)).setVm vm').setCell W.heap.size (npeBareV T.toThrowableT N.toNpeT (freshCell P1.m.cls N.kN) W.heap.size u0 sen)).setFrames (.throwing W.heap.size :: .java g :: below) := by
    rw [State.pushFrame, State.frames_setTop _ hfrM, State.setTop_of_frames _ hfrM, State.setFrames_setFrames]
  refine ⟨_, W.heap.size, _, fun target ht => st.trans (by rw [← hU]; exact ht), X3.forget (fun y hy => ?_), heapAt_setCell_self _ hlt, hfound, rfl⟩
  simp only [List.mem_cons, List.not_mem_nil, or_false] at hy
  have hge : s.heap.size ≤ W.heap.size := X.same.2.1
  rcases hy with rfl | rfl | rfl | rfl | rfl <;> exact hge
/-- the words of a machine's NullPointerException, but the four that speak of the heap -/
def vx_atN (n : Nat) : List Cond := (Bundle.npeArmAtoms n).filter vx_no
/-- the words of a machine's throw with a message, but the four that speak of the heap -/
def vx_atM (X : String) (names : List String) : List Cond := (Bundle.messageArmAtoms X names).filter vx_no
section
variable {p : Program} {l : Launch} {e : Env} {R : Room} {s : State} {m : MethodId} {args : Array Value} {below : List Frame} {meth : Method} {c : Code} {H : Heap} {locs : List Loc} {cells slots : Nat}
/-- a frame seen from a rebased start, seen from the first start again -/
theorem vx_back9 {T S : State} {R' : Room} {k n : Nat} (X : Stand p l e R s m args below meth c T locs cells slots) (Y : Stand p l e R' ((T.setVm s.vm).setFrames (.invoking m args :: below)) m args below meth c T [] 0 0) (Z : Stand p l e R' ((T.setVm s.vm).setFrames (.invoking m args :: below)) m args below meth c S [] k n) :
    Stand p l e R s m args below meth c S locs (cells + k) (slots + n) := by
  have hW0 : s.WarmedH ((T.setVm s.vm).setFrames (.invoking m args :: below)).vm := State.WarmedH.refl s
  refine { admits := X.admits, cas := X.cas, clock := X.clock, frames := X.frames, room := X.room, hears := X.hears, method := X.method, code := X.code, here := Z.here, tail := Z.tail, warmed := State.WarmedH.trans hW0 Z.warmed, limits := Z.limits.trans (Y.limits.symm.trans X.limits), bytes := Z.bytes.trans (Y.bytes.symm.trans X.bytes), same := ?_ }
  obtain ⟨e1, e2⟩ := Z.same
  rw [State.setFrames_setFrames] at e1
  have h2 : (T.setVm s.vm).sameButNew (S.setVm s.vm) [] k n := ⟨e1, e2⟩
  have h3 := X.same.trans h2
  rw [List.append_nil] at h3
  exact h3
/-- from the machine's note that E is thrown here with this text -/
def vx_Note (p : Program) (l : Launch) (e : Env) (R : Room) (s : State) (m : MethodId) (args : Array Value) (below : List Frame) (meth : Method) (c : Code) (H : Heap) (locs : List Loc) (cells slots : Nat) (Q : State → Prop) (g : JFrame) (E text : String) : Prop :=
  ∀ T : State, T.heap = H → Stand p l e R s m args below meth c T locs cells slots → ∃ t, Steps p.tables e below ((T.setTop g).pushFrame (.throwNew E (some text) none)) t ∧ Q t
theorem vx_vm {pc : Nat} {ls : Array Slot} {rest : List Value} {Q : State → Prop} (hexec : p.tables.exec = Jvm.exec) (hl : l.stackTraces = false) {cls text : String} {names : List String} {nb : Nat} {A : Nat → Prop}
    (hcls : Bundle.fit cls = true) (hnames : ∀ n ∈ names, Bundle.fit n = true) (hsoe : (cls == "java/lang/StackOverflowError") = false) (hoom : (cls == "java/lang/OutOfMemoryError") = false)
    (hat : ∀ w ∈ vx_atM cls names, w.before args s = true) (hgood : ∀ w ∈ vx_atM cls names, vx_ot w = true)
    (hU : vx_Zq Bundle.tN "UNASSIGNED_STACK" Bundle.steD A s s.heap) (hN : vx_Zq Bundle.tN "SUPPRESSED_SENTINEL" Bundle.listD A s s.heap) (hS : va_S A s.heap H locs) (hsize : ls.size = c.maxLocals)
    (htext : (text == notModelled) = false) (hnb : (stringBytes (stringToUtf16 text)).size ≤ nb) (hnb1 : nb ≤ 1000)
    (hRframes : names.length + 4 < R.frames) (hRlocals : (rest.map fun v => v.category).sum + 10240 ≤ R.locals) (hshort : 13 * names.length + 55 ≤ 10240) (hRcells : cells + 3 ≤ R.cells) (hRslots : slots + (nb + 10) ≤ R.slots) (hlocks : meth.locks = false)
    (k : ∀ (H1 : Heap) (q9 : Addr) (ce : Cell), H.size ≤ H1.size → (∀ q : Nat, q < H.size → H1[q]? = H[q]?) → va_S A s.heap H1 locs → H1[q9]? = some ce → ce.vm = .none → s.vm.findClass cls = some ce.cls → vx_W p l e R s m args below meth c H1 locs (cells + 3) (slots + (nb + 10)) Q (F0 m pc ls rest) q9) :
    vx_Note p l e R s m args below meth c H locs cells slots Q (F0 m pc ls rest) cls text := by
  intro T hT X
  have htr : e.platform.stackTraces = false := (show e.platform.stackTraces = l.stackTraces by rw [X.admits.platform]).trans hl
  have Y := vx_rebase X (R' := { frames := R.frames, locals := R.locals, cells := 3, slots := nb + 10 }) (Nat.le_refl _) (Nat.le_refl _) hRcells hRslots
  have hhp : ((T.setVm s.vm).setFrames (.invoking m args :: below)).heap = H := hT
  have hW0 : s.WarmedH ((T.setVm s.vm).setFrames (.invoking m args :: below)).vm := State.WarmedH.refl s
  have hat' : ∀ w ∈ vx_atM cls names, w.before args ((T.setVm s.vm).setFrames (.invoking m args :: below)) = true := fun w hw => vx_ot_at hW0 rfl (hgood w hw) (hat w hw)
  have hU' : vx_Zq Bundle.tN "UNASSIGNED_STACK" Bundle.steD A ((T.setVm s.vm).setFrames (.invoking m args :: below)) ((T.setVm s.vm).setFrames (.invoking m args :: below)).heap := by rw [hhp]; exact vx_Zq.moved hW0.alike (hU.kept hS.2.1)
  have hN' : vx_Zq Bundle.tN "SUPPRESSED_SENTINEL" Bundle.listD A ((T.setVm s.vm).setFrames (.invoking m args :: below)) ((T.setVm s.vm).setFrames (.invoking m args :: below)).heap := by rw [hhp]; exact vx_Zq.moved hW0.alike (hN.kept hS.2.1)
  obtain ⟨S, q, ce, st, Z, hce, hcl', hv⟩ := vx_vmAt Y hexec htr (cls := cls) (names := names) (text := text) hcls hnames hsoe hoom (vx_own hat' (vx_isRefq hU'.1) (vx_isRefq hN'.1) hU'.2.word hN'.2.word) (fun x hx => nomatch hx) htext
    (by rw [Launch.admits_arrayLengthLimit X.admits]; omega) (by rw [Launch.admits_maxHeapBytes X.admits]; simp only [componentBytes]; omega)
    (g := F0 m pc ls rest) rfl hsize hRframes (by show 2 * 0 + (rest.map fun v => v.category).sum + 10240 ≤ R.locals; omega) hshort (by show 0 + 3 ≤ 3; omega) (by show 0 + (_ + 4 + 6) ≤ nb + 10; omega) hlocks
  obtain ⟨f1, f2⟩ := vx_frame Z.same
  have f1' : H.size ≤ S.heap.size := by rw [← hT]; exact f1
  have f2' : ∀ q : Nat, q < H.size → S.heap[q]? = H[q]? := fun q hq => by
    rw [← hT]
    exact f2 q (by rw [← hT] at hq; exact hq) (fun z hz => nomatch hz)
  have X5 := vx_back9 X Y Z
  have X6 : Stand p l e R s m args below meth c S locs (cells + 3) (slots + (nb + 10)) := { X5 with same := X5.same.mono (by omega) (by omega) }
  obtain ⟨t, a1, b1⟩ := k S.heap q ce f1' f2' ⟨Nat.le_trans hS.1 f1', fun q h1 h2 => (f2' q (Nat.lt_of_lt_of_le h1 hS.1)).trans (hS.2.1 q h1 h2), hS.2.2⟩ hce hv hcl' S rfl X6
  exact ⟨t, st t a1, b1⟩
/-- from the machine's note that NullPointerException is thrown here -/
def vx_NoteN (p : Program) (l : Launch) (e : Env) (R : Room) (s : State) (m : MethodId) (args : Array Value) (below : List Frame) (meth : Method) (c : Code) (H : Heap) (locs : List Loc) (cells slots : Nat) (Q : State → Prop) (g : JFrame) : Prop :=
  ∀ T : State, T.heap = H → Stand p l e R s m args below meth c T locs cells slots → ∃ t, Steps p.tables e below ((T.setTop g).pushFrame (.throwNew "java/lang/NullPointerException" none none)) t ∧ Q t
theorem vx_npe {pc : Nat} {ls : Array Slot} {rest : List Value} {Q : State → Prop} (hexec : p.tables.exec = Jvm.exec) (hl : l.stackTraces = false) {nb : Nat} {A : Nat → Prop}
    (hat : ∀ w ∈ vx_atN nb, w.before args s = true) (hgood : ∀ w ∈ vx_atN nb, vx_ot w = true)
    (hU : vx_Zq Bundle.tN "UNASSIGNED_STACK" Bundle.steD A s s.heap) (hN : vx_Zq Bundle.tN "SUPPRESSED_SENTINEL" Bundle.listD A s s.heap) (hS : va_S A s.heap H locs) (hsize : ls.size = c.maxLocals)
    (hRframes : 7 < R.frames) (hRlocals : (rest.map fun v => v.category).sum + 10240 ≤ R.locals) (hRcells : cells + 1 ≤ R.cells) (hRslots : slots + nb ≤ R.slots) (hlocks : meth.locks = false)
    (k : ∀ (H1 : Heap) (q9 : Addr) (ce : Cell), H.size ≤ H1.size → (∀ q : Nat, q < H.size → H1[q]? = H[q]?) → va_S A s.heap H1 locs → H1[q9]? = some ce → ce.vm = .none → s.vm.findClass "java/lang/NullPointerException" = some ce.cls → vx_W p l e R s m args below meth c H1 locs (cells + 1) (slots + nb) Q (F0 m pc ls rest) q9) :
    vx_NoteN p l e R s m args below meth c H locs cells slots Q (F0 m pc ls rest) := by
  intro T hT X
  have htr : e.platform.stackTraces = false := (show e.platform.stackTraces = l.stackTraces by rw [X.admits.platform]).trans hl
  have Y := vx_rebase X (R' := { frames := R.frames, locals := R.locals, cells := 1, slots := nb }) (Nat.le_refl _) (Nat.le_refl _) hRcells hRslots
  have hhp : ((T.setVm s.vm).setFrames (.invoking m args :: below)).heap = H := hT
  have hW0 : s.WarmedH ((T.setVm s.vm).setFrames (.invoking m args :: below)).vm := State.WarmedH.refl s
  have hat' : ∀ w ∈ vx_atN nb, w.before args ((T.setVm s.vm).setFrames (.invoking m args :: below)) = true := fun w hw => vx_ot_at hW0 rfl (hgood w hw) (hat w hw)
  have hU' : vx_Zq Bundle.tN "UNASSIGNED_STACK" Bundle.steD A ((T.setVm s.vm).setFrames (.invoking m args :: below)) ((T.setVm s.vm).setFrames (.invoking m args :: below)).heap := by rw [hhp]; exact vx_Zq.moved hW0.alike (hU.kept hS.2.1)
  have hN' : vx_Zq Bundle.tN "SUPPRESSED_SENTINEL" Bundle.listD A ((T.setVm s.vm).setFrames (.invoking m args :: below)) ((T.setVm s.vm).setFrames (.invoking m args :: below)).heap := by rw [hhp]; exact vx_Zq.moved hW0.alike (hN.kept hS.2.1)
  obtain ⟨S, q, ce, st, Z, hce, hcl', hv⟩ := vx_npeAt Y hexec htr (n := nb) (vx_own hat' (vx_isRefq hU'.1) (vx_isRefq hN'.1) hU'.2.word hN'.2.word) (fun x hx => nomatch hx)
    (g := F0 m pc ls rest) rfl hsize hRframes (by show 2 * 0 + (rest.map fun v => v.category).sum + 10240 ≤ R.locals; omega) (by show 0 + 1 ≤ 1; omega) (by show 0 + nb ≤ nb; omega) hlocks
  obtain ⟨f1, f2⟩ := vx_frame Z.same
  have f1' : H.size ≤ S.heap.size := by rw [← hT]; exact f1
  have f2' : ∀ q : Nat, q < H.size → S.heap[q]? = H[q]? := fun q hq => by
    rw [← hT]
    exact f2 q (by rw [← hT] at hq; exact hq) (fun z hz => nomatch hz)
  have X5 := vx_back9 X Y Z
  have X6 : Stand p l e R s m args below meth c S locs (cells + 1) (slots + nb) := { X5 with same := X5.same.mono (by omega) (by omega) }
  obtain ⟨t, a1, b1⟩ := k S.heap q ce f1' f2' ⟨Nat.le_trans hS.1 f1', fun q h1 h2 => (f2' q (Nat.lt_of_lt_of_le h1 hS.1)).trans (hS.2.1 q h1 h2), hS.2.2⟩ hce hv hcl' S rfl X6
  exact ⟨t, st t a1, b1⟩
variable {Q : State → Prop} {cc : ByteArray} {pc : Nat} {ls : Array Slot} {rest : List Value}
theorem vx_idivZ (hexec : p.tables.exec = Jvm.exec) (hb : c.code = cc) {a b : Int32} (h0 : b = 0) (d : decode cc pc = .ok (.idiv, 1)) (k : vx_Note p l e R s m args below meth c H locs cells slots Q (F0 m pc ls rest) "java/lang/ArithmeticException" "/ by zero") :
    W p l e R s m args below meth c H locs cells slots Q (F0 m pc ls (.int b :: .int a :: rest)) := by
  intro T hT X
  obtain ⟨t, st, q⟩ := k T hT X
  exact ⟨t, X.idivZero hexec (g := F0 m pc ls (.int b :: .int a :: rest)) rfl (a := a) (rest := rest) (by rw [h0]) (by rw [hb]; exact d) t st, q⟩
theorem vx_iremZ (hexec : p.tables.exec = Jvm.exec) (hb : c.code = cc) {a b : Int32} (h0 : b = 0) (d : decode cc pc = .ok (.irem, 1)) (k : vx_Note p l e R s m args below meth c H locs cells slots Q (F0 m pc ls rest) "java/lang/ArithmeticException" "/ by zero") :
    W p l e R s m args below meth c H locs cells slots Q (F0 m pc ls (.int b :: .int a :: rest)) := by
  intro T hT X
  obtain ⟨t, st, q⟩ := k T hT X
  exact ⟨t, X.iremZero hexec (g := F0 m pc ls (.int b :: .int a :: rest)) rfl (a := a) (rest := rest) (by rw [h0]) (by rw [hb]; exact d) t st, q⟩
theorem vx_ldivZ (hexec : p.tables.exec = Jvm.exec) (hb : c.code = cc) {a b : Int64} (h0 : b = 0) (d : decode cc pc = .ok (.ldiv, 1)) (k : vx_Note p l e R s m args below meth c H locs cells slots Q (F0 m pc ls rest) "java/lang/ArithmeticException" "/ by zero") :
    W p l e R s m args below meth c H locs cells slots Q (F0 m pc ls (.long b :: .long a :: rest)) := by
  intro T hT X
  obtain ⟨t, st, q⟩ := k T hT X
  exact ⟨t, X.ldivZero hexec (g := F0 m pc ls (.long b :: .long a :: rest)) rfl (a := a) (rest := rest) (by rw [h0]) (by rw [hb]; exact d) t st, q⟩
theorem vx_lremZ (hexec : p.tables.exec = Jvm.exec) (hb : c.code = cc) {a b : Int64} (h0 : b = 0) (d : decode cc pc = .ok (.lrem, 1)) (k : vx_Note p l e R s m args below meth c H locs cells slots Q (F0 m pc ls rest) "java/lang/ArithmeticException" "/ by zero") :
    W p l e R s m args below meth c H locs cells slots Q (F0 m pc ls (.long b :: .long a :: rest)) := by
  intro T hT X
  obtain ⟨t, st, q⟩ := k T hT X
  exact ⟨t, X.lremZero hexec (g := F0 m pc ls (.long b :: .long a :: rest)) rfl (a := a) (rest := rest) (by rw [h0]) (by rw [hb]; exact d) t st, q⟩
theorem vx_ialdZ {D : va_G} {cl : List vw_C} {ws : va_W} {tys : List (ClassId × FieldType)} {a : Nat} (hexec : p.tables.exec = Jvm.exec) (hb : c.code = cc) (hK : va_K D cl tys s) (hP : va_P D cl ws H) (q0 t0 : Nat) {cA : ClassId} {n : Nat} {f : Nat → Int32} (ha : ws[q0]? = some (a, .inl (cA, n, .inl f))) (ht : tys[t0]? = some (cA, .int)) {i : Int32} (hout : ¬ vp_in i n) (hdg : decode cc pc = .ok (.iaload, 1))
    (k : ∀ tx : String, tx = (toString "Index " ++ toString i ++ toString " out of bounds for length " ++ toString n : String) → vx_Note p l e R s m args below meth c H locs cells slots Q (F0 m pc ls rest) "java/lang/ArrayIndexOutOfBoundsException" tx) : W p l e R s m args below meth c H locs cells slots Q (F0 m pc ls (.int i :: .ref a :: rest)) := by
  intro T hT X
  obtain ⟨t, st, q⟩ := k _ rfl T hT X
  refine ⟨t, ?_, q⟩
  have h1 := X.ialoadOut hexec (by rw [hT]; exact hP q0 _ ha) ((hK.2 t0 _ ht).1 n (fun j => .int (f j))) (j := i) (by show (i < 0 ∨ (arrV _ _ _).slots.size ≤ _); rw [arrV_size]; exact Classical.byContradiction hout) (g := F0 m pc ls (.int i :: .ref a :: rest)) rfl (rest := rest) rfl (by rw [hb]; exact hdg) t
  simp only [arrV_size] at h1
  exact h1 st
theorem vx_iastZ {D : va_G} {cl : List vw_C} {ws : va_W} {tys : List (ClassId × FieldType)} {a : Nat} (hexec : p.tables.exec = Jvm.exec) (hb : c.code = cc) (hK : va_K D cl tys s) (hP : va_P D cl ws H) (q0 t0 : Nat) {cA : ClassId} {n : Nat} {f : Nat → Int32} (ha : ws[q0]? = some (a, .inl (cA, n, .inl f))) (ht : tys[t0]? = some (cA, .int)) {i : Int32} {x : Int32} (hout : ¬ vp_in i n) (hdg : decode cc pc = .ok (.iastore, 1))
    (k : ∀ tx : String, tx = (toString "Index " ++ toString i ++ toString " out of bounds for length " ++ toString n : String) → vx_Note p l e R s m args below meth c H locs cells slots Q (F0 m pc ls rest) "java/lang/ArrayIndexOutOfBoundsException" tx) : W p l e R s m args below meth c H locs cells slots Q (F0 m pc ls (.int x :: .int i :: .ref a :: rest)) := by
  intro T hT X
  obtain ⟨t, st, q⟩ := k _ rfl T hT X
  refine ⟨t, ?_, q⟩
  have h1 := X.iastoreOut hexec (by rw [hT]; exact hP q0 _ ha) ((hK.2 t0 _ ht).1 n (fun j => .int (f j))) (j := i) (by show (i < 0 ∨ (arrV _ _ _).slots.size ≤ _); rw [arrV_size]; exact Classical.byContradiction hout) (g := F0 m pc ls (.int x :: .int i :: .ref a :: rest)) rfl (rest := rest) rfl (by rw [hb]; exact hdg) t
  simp only [arrV_size] at h1
  exact h1 st
theorem vx_baldZ {D : va_G} {cl : List vw_C} {ws : va_W} {tys : List (ClassId × FieldType)} {a : Nat} (hexec : p.tables.exec = Jvm.exec) (hb : c.code = cc) (hK : va_K D cl tys s) (hP : va_P D cl ws H) (q0 t0 : Nat) {cA : ClassId} {n : Nat} {f : Nat → Int32} (ha : ws[q0]? = some (a, .inl (cA, n, .inl f))) (ht : tys[t0]? = some (cA, .byte)) {i : Int32} (hout : ¬ vp_in i n) (hdg : decode cc pc = .ok (.baload, 1))
    (k : ∀ tx : String, tx = (toString "Index " ++ toString i ++ toString " out of bounds for length " ++ toString n : String) → vx_Note p l e R s m args below meth c H locs cells slots Q (F0 m pc ls rest) "java/lang/ArrayIndexOutOfBoundsException" tx) : W p l e R s m args below meth c H locs cells slots Q (F0 m pc ls (.int i :: .ref a :: rest)) := by
  intro T hT X
  obtain ⟨t, st, q⟩ := k _ rfl T hT X
  refine ⟨t, ?_, q⟩
  have h1 := X.baloadOut hexec (by rw [hT]; exact hP q0 _ ha) ((hK.2 t0 _ ht).1 n (fun j => .int (f j))) (j := i) (by show (i < 0 ∨ (arrV _ _ _).slots.size ≤ _); rw [arrV_size]; exact Classical.byContradiction hout) (g := F0 m pc ls (.int i :: .ref a :: rest)) rfl (rest := rest) rfl (by rw [hb]; exact hdg) t
  simp only [arrV_size] at h1
  exact h1 st
theorem vx_bastZ {D : va_G} {cl : List vw_C} {ws : va_W} {tys : List (ClassId × FieldType)} {a : Nat} (hexec : p.tables.exec = Jvm.exec) (hb : c.code = cc) (hK : va_K D cl tys s) (hP : va_P D cl ws H) (q0 t0 : Nat) {cA : ClassId} {n : Nat} {f : Nat → Int32} (ha : ws[q0]? = some (a, .inl (cA, n, .inl f))) (ht : tys[t0]? = some (cA, .byte)) {i : Int32} {x : Int32} (hout : ¬ vp_in i n) (hdg : decode cc pc = .ok (.bastore, 1))
    (k : ∀ tx : String, tx = (toString "Index " ++ toString i ++ toString " out of bounds for length " ++ toString n : String) → vx_Note p l e R s m args below meth c H locs cells slots Q (F0 m pc ls rest) "java/lang/ArrayIndexOutOfBoundsException" tx) : W p l e R s m args below meth c H locs cells slots Q (F0 m pc ls (.int x :: .int i :: .ref a :: rest)) := by
  intro T hT X
  obtain ⟨t, st, q⟩ := k _ rfl T hT X
  refine ⟨t, ?_, q⟩
  have h1 := X.bastoreOut hexec (by rw [hT]; exact hP q0 _ ha) ((hK.2 t0 _ ht).1 n (fun j => .int (f j))) (j := i) (by show (i < 0 ∨ (arrV _ _ _).slots.size ≤ _); rw [arrV_size]; exact Classical.byContradiction hout) (g := F0 m pc ls (.int x :: .int i :: .ref a :: rest)) rfl (rest := rest) rfl (by rw [hb]; exact hdg) t
  simp only [arrV_size] at h1
  exact h1 st
theorem vx_zaldZ {D : va_G} {cl : List vw_C} {ws : va_W} {tys : List (ClassId × FieldType)} {a : Nat} (hexec : p.tables.exec = Jvm.exec) (hb : c.code = cc) (hK : va_K D cl tys s) (hP : va_P D cl ws H) (q0 t0 : Nat) {cA : ClassId} {n : Nat} {f : Nat → Int32} (ha : ws[q0]? = some (a, .inl (cA, n, .inl f))) (ht : tys[t0]? = some (cA, .boolean)) {i : Int32} (hout : ¬ vp_in i n) (hdg : decode cc pc = .ok (.baload, 1))
    (k : ∀ tx : String, tx = (toString "Index " ++ toString i ++ toString " out of bounds for length " ++ toString n : String) → vx_Note p l e R s m args below meth c H locs cells slots Q (F0 m pc ls rest) "java/lang/ArrayIndexOutOfBoundsException" tx) : W p l e R s m args below meth c H locs cells slots Q (F0 m pc ls (.int i :: .ref a :: rest)) := by
  intro T hT X
  obtain ⟨t, st, q⟩ := k _ rfl T hT X
  refine ⟨t, ?_, q⟩
  have h1 := X.baloadOut hexec (by rw [hT]; exact hP q0 _ ha) ((hK.2 t0 _ ht).1 n (fun j => .int (f j))) (j := i) (by show (i < 0 ∨ (arrV _ _ _).slots.size ≤ _); rw [arrV_size]; exact Classical.byContradiction hout) (g := F0 m pc ls (.int i :: .ref a :: rest)) rfl (rest := rest) rfl (by rw [hb]; exact hdg) t
  simp only [arrV_size] at h1
  exact h1 st
theorem vx_zastZ {D : va_G} {cl : List vw_C} {ws : va_W} {tys : List (ClassId × FieldType)} {a : Nat} (hexec : p.tables.exec = Jvm.exec) (hb : c.code = cc) (hK : va_K D cl tys s) (hP : va_P D cl ws H) (q0 t0 : Nat) {cA : ClassId} {n : Nat} {f : Nat → Int32} (ha : ws[q0]? = some (a, .inl (cA, n, .inl f))) (ht : tys[t0]? = some (cA, .boolean)) {i : Int32} {x : Int32} (hout : ¬ vp_in i n) (hdg : decode cc pc = .ok (.bastore, 1))
    (k : ∀ tx : String, tx = (toString "Index " ++ toString i ++ toString " out of bounds for length " ++ toString n : String) → vx_Note p l e R s m args below meth c H locs cells slots Q (F0 m pc ls rest) "java/lang/ArrayIndexOutOfBoundsException" tx) : W p l e R s m args below meth c H locs cells slots Q (F0 m pc ls (.int x :: .int i :: .ref a :: rest)) := by
  intro T hT X
  obtain ⟨t, st, q⟩ := k _ rfl T hT X
  refine ⟨t, ?_, q⟩
  have h1 := X.bastoreOut hexec (by rw [hT]; exact hP q0 _ ha) ((hK.2 t0 _ ht).1 n (fun j => .int (f j))) (j := i) (by show (i < 0 ∨ (arrV _ _ _).slots.size ≤ _); rw [arrV_size]; exact Classical.byContradiction hout) (g := F0 m pc ls (.int x :: .int i :: .ref a :: rest)) rfl (rest := rest) rfl (by rw [hb]; exact hdg) t
  simp only [arrV_size] at h1
  exact h1 st
theorem vx_caldZ {D : va_G} {cl : List vw_C} {ws : va_W} {tys : List (ClassId × FieldType)} {a : Nat} (hexec : p.tables.exec = Jvm.exec) (hb : c.code = cc) (hK : va_K D cl tys s) (hP : va_P D cl ws H) (q0 t0 : Nat) {cA : ClassId} {n : Nat} {f : Nat → Int32} (ha : ws[q0]? = some (a, .inl (cA, n, .inl f))) (ht : tys[t0]? = some (cA, .char)) {i : Int32} (hout : ¬ vp_in i n) (hdg : decode cc pc = .ok (.caload, 1))
    (k : ∀ tx : String, tx = (toString "Index " ++ toString i ++ toString " out of bounds for length " ++ toString n : String) → vx_Note p l e R s m args below meth c H locs cells slots Q (F0 m pc ls rest) "java/lang/ArrayIndexOutOfBoundsException" tx) : W p l e R s m args below meth c H locs cells slots Q (F0 m pc ls (.int i :: .ref a :: rest)) := by
  intro T hT X
  obtain ⟨t, st, q⟩ := k _ rfl T hT X
  refine ⟨t, ?_, q⟩
  have h1 := X.caloadOut hexec (by rw [hT]; exact hP q0 _ ha) ((hK.2 t0 _ ht).1 n (fun j => .int (f j))) (j := i) (by show (i < 0 ∨ (arrV _ _ _).slots.size ≤ _); rw [arrV_size]; exact Classical.byContradiction hout) (g := F0 m pc ls (.int i :: .ref a :: rest)) rfl (rest := rest) rfl (by rw [hb]; exact hdg) t
  simp only [arrV_size] at h1
  exact h1 st
theorem vx_castZ {D : va_G} {cl : List vw_C} {ws : va_W} {tys : List (ClassId × FieldType)} {a : Nat} (hexec : p.tables.exec = Jvm.exec) (hb : c.code = cc) (hK : va_K D cl tys s) (hP : va_P D cl ws H) (q0 t0 : Nat) {cA : ClassId} {n : Nat} {f : Nat → Int32} (ha : ws[q0]? = some (a, .inl (cA, n, .inl f))) (ht : tys[t0]? = some (cA, .char)) {i : Int32} {x : Int32} (hout : ¬ vp_in i n) (hdg : decode cc pc = .ok (.castore, 1))
    (k : ∀ tx : String, tx = (toString "Index " ++ toString i ++ toString " out of bounds for length " ++ toString n : String) → vx_Note p l e R s m args below meth c H locs cells slots Q (F0 m pc ls rest) "java/lang/ArrayIndexOutOfBoundsException" tx) : W p l e R s m args below meth c H locs cells slots Q (F0 m pc ls (.int x :: .int i :: .ref a :: rest)) := by
  intro T hT X
  obtain ⟨t, st, q⟩ := k _ rfl T hT X
  refine ⟨t, ?_, q⟩
  have h1 := X.castoreOut hexec (by rw [hT]; exact hP q0 _ ha) ((hK.2 t0 _ ht).1 n (fun j => .int (f j))) (j := i) (by show (i < 0 ∨ (arrV _ _ _).slots.size ≤ _); rw [arrV_size]; exact Classical.byContradiction hout) (g := F0 m pc ls (.int x :: .int i :: .ref a :: rest)) rfl (rest := rest) rfl (by rw [hb]; exact hdg) t
  simp only [arrV_size] at h1
  exact h1 st
theorem vx_saldZ {D : va_G} {cl : List vw_C} {ws : va_W} {tys : List (ClassId × FieldType)} {a : Nat} (hexec : p.tables.exec = Jvm.exec) (hb : c.code = cc) (hK : va_K D cl tys s) (hP : va_P D cl ws H) (q0 t0 : Nat) {cA : ClassId} {n : Nat} {f : Nat → Int32} (ha : ws[q0]? = some (a, .inl (cA, n, .inl f))) (ht : tys[t0]? = some (cA, .short)) {i : Int32} (hout : ¬ vp_in i n) (hdg : decode cc pc = .ok (.saload, 1))
    (k : ∀ tx : String, tx = (toString "Index " ++ toString i ++ toString " out of bounds for length " ++ toString n : String) → vx_Note p l e R s m args below meth c H locs cells slots Q (F0 m pc ls rest) "java/lang/ArrayIndexOutOfBoundsException" tx) : W p l e R s m args below meth c H locs cells slots Q (F0 m pc ls (.int i :: .ref a :: rest)) := by
  intro T hT X
  obtain ⟨t, st, q⟩ := k _ rfl T hT X
  refine ⟨t, ?_, q⟩
  have h1 := X.saloadOut hexec (by rw [hT]; exact hP q0 _ ha) ((hK.2 t0 _ ht).1 n (fun j => .int (f j))) (j := i) (by show (i < 0 ∨ (arrV _ _ _).slots.size ≤ _); rw [arrV_size]; exact Classical.byContradiction hout) (g := F0 m pc ls (.int i :: .ref a :: rest)) rfl (rest := rest) rfl (by rw [hb]; exact hdg) t
  simp only [arrV_size] at h1
  exact h1 st
theorem vx_sastZ {D : va_G} {cl : List vw_C} {ws : va_W} {tys : List (ClassId × FieldType)} {a : Nat} (hexec : p.tables.exec = Jvm.exec) (hb : c.code = cc) (hK : va_K D cl tys s) (hP : va_P D cl ws H) (q0 t0 : Nat) {cA : ClassId} {n : Nat} {f : Nat → Int32} (ha : ws[q0]? = some (a, .inl (cA, n, .inl f))) (ht : tys[t0]? = some (cA, .short)) {i : Int32} {x : Int32} (hout : ¬ vp_in i n) (hdg : decode cc pc = .ok (.sastore, 1))
    (k : ∀ tx : String, tx = (toString "Index " ++ toString i ++ toString " out of bounds for length " ++ toString n : String) → vx_Note p l e R s m args below meth c H locs cells slots Q (F0 m pc ls rest) "java/lang/ArrayIndexOutOfBoundsException" tx) : W p l e R s m args below meth c H locs cells slots Q (F0 m pc ls (.int x :: .int i :: .ref a :: rest)) := by
  intro T hT X
  obtain ⟨t, st, q⟩ := k _ rfl T hT X
  refine ⟨t, ?_, q⟩
  have h1 := X.sastoreOut hexec (by rw [hT]; exact hP q0 _ ha) ((hK.2 t0 _ ht).1 n (fun j => .int (f j))) (j := i) (by show (i < 0 ∨ (arrV _ _ _).slots.size ≤ _); rw [arrV_size]; exact Classical.byContradiction hout) (g := F0 m pc ls (.int x :: .int i :: .ref a :: rest)) rfl (rest := rest) rfl (by rw [hb]; exact hdg) t
  simp only [arrV_size] at h1
  exact h1 st
theorem vx_laldZ {D : va_G} {cl : List vw_C} {ws : va_W} {tys : List (ClassId × FieldType)} {a : Nat} (hexec : p.tables.exec = Jvm.exec) (hb : c.code = cc) (hK : va_K D cl tys s) (hP : va_P D cl ws H) (q0 t0 : Nat) {cA : ClassId} {n : Nat} {f : Nat → Int64} (ha : ws[q0]? = some (a, .inl (cA, n, .inr (.inl f)))) (ht : tys[t0]? = some (cA, .long)) {i : Int32} (hout : ¬ vp_in i n) (hdg : decode cc pc = .ok (.laload, 1))
    (k : ∀ tx : String, tx = (toString "Index " ++ toString i ++ toString " out of bounds for length " ++ toString n : String) → vx_Note p l e R s m args below meth c H locs cells slots Q (F0 m pc ls rest) "java/lang/ArrayIndexOutOfBoundsException" tx) : W p l e R s m args below meth c H locs cells slots Q (F0 m pc ls (.int i :: .ref a :: rest)) := by
  intro T hT X
  obtain ⟨t, st, q⟩ := k _ rfl T hT X
  refine ⟨t, ?_, q⟩
  have h1 := X.laloadOut hexec (by rw [hT]; exact hP q0 _ ha) ((hK.2 t0 _ ht).1 n (fun j => .long (f j))) (j := i) (by show (i < 0 ∨ (arrV _ _ _).slots.size ≤ _); rw [arrV_size]; exact Classical.byContradiction hout) (g := F0 m pc ls (.int i :: .ref a :: rest)) rfl (rest := rest) rfl (by rw [hb]; exact hdg) t
  simp only [arrV_size] at h1
  exact h1 st
theorem vx_lastZ {D : va_G} {cl : List vw_C} {ws : va_W} {tys : List (ClassId × FieldType)} {a : Nat} (hexec : p.tables.exec = Jvm.exec) (hb : c.code = cc) (hK : va_K D cl tys s) (hP : va_P D cl ws H) (q0 t0 : Nat) {cA : ClassId} {n : Nat} {f : Nat → Int64} (ha : ws[q0]? = some (a, .inl (cA, n, .inr (.inl f)))) (ht : tys[t0]? = some (cA, .long)) {i : Int32} {x : Int64} (hout : ¬ vp_in i n) (hdg : decode cc pc = .ok (.lastore, 1))
    (k : ∀ tx : String, tx = (toString "Index " ++ toString i ++ toString " out of bounds for length " ++ toString n : String) → vx_Note p l e R s m args below meth c H locs cells slots Q (F0 m pc ls rest) "java/lang/ArrayIndexOutOfBoundsException" tx) : W p l e R s m args below meth c H locs cells slots Q (F0 m pc ls (.long x :: .int i :: .ref a :: rest)) := by
  intro T hT X
  obtain ⟨t, st, q⟩ := k _ rfl T hT X
  refine ⟨t, ?_, q⟩
  have h1 := X.lastoreOut hexec (by rw [hT]; exact hP q0 _ ha) ((hK.2 t0 _ ht).1 n (fun j => .long (f j))) (j := i) (by show (i < 0 ∨ (arrV _ _ _).slots.size ≤ _); rw [arrV_size]; exact Classical.byContradiction hout) (g := F0 m pc ls (.long x :: .int i :: .ref a :: rest)) rfl (rest := rest) rfl (by rw [hb]; exact hdg) t
  simp only [arrV_size] at h1
  exact h1 st
theorem vx_faldZ {D : va_G} {cl : List vw_C} {ws : va_W} {tys : List (ClassId × FieldType)} {a : Nat} (hexec : p.tables.exec = Jvm.exec) (hb : c.code = cc) (hK : va_K D cl tys s) (hP : va_P D cl ws H) (q0 t0 : Nat) {cA : ClassId} {n : Nat} {f : Nat → UInt32} (ha : ws[q0]? = some (a, .inl (cA, n, .inr (.inr (.inl f))))) (ht : tys[t0]? = some (cA, .float)) {i : Int32} (hout : ¬ vp_in i n) (hdg : decode cc pc = .ok (.faload, 1))
    (k : ∀ tx : String, tx = (toString "Index " ++ toString i ++ toString " out of bounds for length " ++ toString n : String) → vx_Note p l e R s m args below meth c H locs cells slots Q (F0 m pc ls rest) "java/lang/ArrayIndexOutOfBoundsException" tx) : W p l e R s m args below meth c H locs cells slots Q (F0 m pc ls (.int i :: .ref a :: rest)) := by
  intro T hT X
  obtain ⟨t, st, q⟩ := k _ rfl T hT X
  refine ⟨t, ?_, q⟩
  have h1 := X.faloadOut hexec (by rw [hT]; exact hP q0 _ ha) ((hK.2 t0 _ ht).1 n (fun j => .float (f j))) (j := i) (by show (i < 0 ∨ (arrV _ _ _).slots.size ≤ _); rw [arrV_size]; exact Classical.byContradiction hout) (g := F0 m pc ls (.int i :: .ref a :: rest)) rfl (rest := rest) rfl (by rw [hb]; exact hdg) t
  simp only [arrV_size] at h1
  exact h1 st
theorem vx_fastZ {D : va_G} {cl : List vw_C} {ws : va_W} {tys : List (ClassId × FieldType)} {a : Nat} (hexec : p.tables.exec = Jvm.exec) (hb : c.code = cc) (hK : va_K D cl tys s) (hP : va_P D cl ws H) (q0 t0 : Nat) {cA : ClassId} {n : Nat} {f : Nat → UInt32} (ha : ws[q0]? = some (a, .inl (cA, n, .inr (.inr (.inl f))))) (ht : tys[t0]? = some (cA, .float)) {i : Int32} {x : UInt32} (hout : ¬ vp_in i n) (hdg : decode cc pc = .ok (.fastore, 1))
    (k : ∀ tx : String, tx = (toString "Index " ++ toString i ++ toString " out of bounds for length " ++ toString n : String) → vx_Note p l e R s m args below meth c H locs cells slots Q (F0 m pc ls rest) "java/lang/ArrayIndexOutOfBoundsException" tx) : W p l e R s m args below meth c H locs cells slots Q (F0 m pc ls (.float x :: .int i :: .ref a :: rest)) := by
  intro T hT X
  obtain ⟨t, st, q⟩ := k _ rfl T hT X
  refine ⟨t, ?_, q⟩
  have h1 := X.fastoreOut hexec (by rw [hT]; exact hP q0 _ ha) ((hK.2 t0 _ ht).1 n (fun j => .float (f j))) (j := i) (by show (i < 0 ∨ (arrV _ _ _).slots.size ≤ _); rw [arrV_size]; exact Classical.byContradiction hout) (g := F0 m pc ls (.float x :: .int i :: .ref a :: rest)) rfl (rest := rest) rfl (by rw [hb]; exact hdg) t
  simp only [arrV_size] at h1
  exact h1 st
theorem vx_daldZ {D : va_G} {cl : List vw_C} {ws : va_W} {tys : List (ClassId × FieldType)} {a : Nat} (hexec : p.tables.exec = Jvm.exec) (hb : c.code = cc) (hK : va_K D cl tys s) (hP : va_P D cl ws H) (q0 t0 : Nat) {cA : ClassId} {n : Nat} {f : Nat → UInt64} (ha : ws[q0]? = some (a, .inl (cA, n, .inr (.inr (.inr (.inl f)))))) (ht : tys[t0]? = some (cA, .double)) {i : Int32} (hout : ¬ vp_in i n) (hdg : decode cc pc = .ok (.daload, 1))
    (k : ∀ tx : String, tx = (toString "Index " ++ toString i ++ toString " out of bounds for length " ++ toString n : String) → vx_Note p l e R s m args below meth c H locs cells slots Q (F0 m pc ls rest) "java/lang/ArrayIndexOutOfBoundsException" tx) : W p l e R s m args below meth c H locs cells slots Q (F0 m pc ls (.int i :: .ref a :: rest)) := by
  intro T hT X
  obtain ⟨t, st, q⟩ := k _ rfl T hT X
  refine ⟨t, ?_, q⟩
  have h1 := X.daloadOut hexec (by rw [hT]; exact hP q0 _ ha) ((hK.2 t0 _ ht).1 n (fun j => .double (f j))) (j := i) (by show (i < 0 ∨ (arrV _ _ _).slots.size ≤ _); rw [arrV_size]; exact Classical.byContradiction hout) (g := F0 m pc ls (.int i :: .ref a :: rest)) rfl (rest := rest) rfl (by rw [hb]; exact hdg) t
  simp only [arrV_size] at h1
  exact h1 st
theorem vx_dastZ {D : va_G} {cl : List vw_C} {ws : va_W} {tys : List (ClassId × FieldType)} {a : Nat} (hexec : p.tables.exec = Jvm.exec) (hb : c.code = cc) (hK : va_K D cl tys s) (hP : va_P D cl ws H) (q0 t0 : Nat) {cA : ClassId} {n : Nat} {f : Nat → UInt64} (ha : ws[q0]? = some (a, .inl (cA, n, .inr (.inr (.inr (.inl f)))))) (ht : tys[t0]? = some (cA, .double)) {i : Int32} {x : UInt64} (hout : ¬ vp_in i n) (hdg : decode cc pc = .ok (.dastore, 1))
    (k : ∀ tx : String, tx = (toString "Index " ++ toString i ++ toString " out of bounds for length " ++ toString n : String) → vx_Note p l e R s m args below meth c H locs cells slots Q (F0 m pc ls rest) "java/lang/ArrayIndexOutOfBoundsException" tx) : W p l e R s m args below meth c H locs cells slots Q (F0 m pc ls (.double x :: .int i :: .ref a :: rest)) := by
  intro T hT X
  obtain ⟨t, st, q⟩ := k _ rfl T hT X
  refine ⟨t, ?_, q⟩
  have h1 := X.dastoreOut hexec (by rw [hT]; exact hP q0 _ ha) ((hK.2 t0 _ ht).1 n (fun j => .double (f j))) (j := i) (by show (i < 0 ∨ (arrV _ _ _).slots.size ≤ _); rw [arrV_size]; exact Classical.byContradiction hout) (g := F0 m pc ls (.double x :: .int i :: .ref a :: rest)) rfl (rest := rest) rfl (by rw [hb]; exact hdg) t
  simp only [arrV_size] at h1
  exact h1 st
theorem vx_arraylengthN (hexec : p.tables.exec = Jvm.exec) (hb : c.code = cc) (hdg : decode cc pc = .ok (.arraylength, 1)) (k : vx_NoteN p l e R s m args below meth c H locs cells slots Q (F0 m pc ls rest)) : W p l e R s m args below meth c H locs cells slots Q (F0 m pc ls (.null :: rest)) := by
  intro T hT X
  obtain ⟨t, st, q⟩ := k T hT X
  exact ⟨t, X.arraylengthNull hexec (g := F0 m pc ls (.null :: rest)) rfl (rest := rest) rfl (by rw [hb]; exact hdg) t st, q⟩
theorem vx_ialoadN (hexec : p.tables.exec = Jvm.exec) (hb : c.code = cc) {i : Int32} (hdg : decode cc pc = .ok (.iaload, 1)) (k : vx_NoteN p l e R s m args below meth c H locs cells slots Q (F0 m pc ls rest)) : W p l e R s m args below meth c H locs cells slots Q (F0 m pc ls (.int i :: .null :: rest)) := by
  intro T hT X
  obtain ⟨t, st, q⟩ := k T hT X
  exact ⟨t, X.ialoadNull hexec (g := F0 m pc ls (.int i :: .null :: rest)) rfl (rest := rest) rfl (by rw [hb]; exact hdg) t st, q⟩
theorem vx_laloadN (hexec : p.tables.exec = Jvm.exec) (hb : c.code = cc) {i : Int32} (hdg : decode cc pc = .ok (.laload, 1)) (k : vx_NoteN p l e R s m args below meth c H locs cells slots Q (F0 m pc ls rest)) : W p l e R s m args below meth c H locs cells slots Q (F0 m pc ls (.int i :: .null :: rest)) := by
  intro T hT X
  obtain ⟨t, st, q⟩ := k T hT X
  exact ⟨t, X.laloadNull hexec (g := F0 m pc ls (.int i :: .null :: rest)) rfl (rest := rest) rfl (by rw [hb]; exact hdg) t st, q⟩
theorem vx_faloadN (hexec : p.tables.exec = Jvm.exec) (hb : c.code = cc) {i : Int32} (hdg : decode cc pc = .ok (.faload, 1)) (k : vx_NoteN p l e R s m args below meth c H locs cells slots Q (F0 m pc ls rest)) : W p l e R s m args below meth c H locs cells slots Q (F0 m pc ls (.int i :: .null :: rest)) := by
  intro T hT X
  obtain ⟨t, st, q⟩ := k T hT X
  exact ⟨t, X.faloadNull hexec (g := F0 m pc ls (.int i :: .null :: rest)) rfl (rest := rest) rfl (by rw [hb]; exact hdg) t st, q⟩
theorem vx_daloadN (hexec : p.tables.exec = Jvm.exec) (hb : c.code = cc) {i : Int32} (hdg : decode cc pc = .ok (.daload, 1)) (k : vx_NoteN p l e R s m args below meth c H locs cells slots Q (F0 m pc ls rest)) : W p l e R s m args below meth c H locs cells slots Q (F0 m pc ls (.int i :: .null :: rest)) := by
  intro T hT X
  obtain ⟨t, st, q⟩ := k T hT X
  exact ⟨t, X.daloadNull hexec (g := F0 m pc ls (.int i :: .null :: rest)) rfl (rest := rest) rfl (by rw [hb]; exact hdg) t st, q⟩
theorem vx_aaloadN (hexec : p.tables.exec = Jvm.exec) (hb : c.code = cc) {i : Int32} (hdg : decode cc pc = .ok (.aaload, 1)) (k : vx_NoteN p l e R s m args below meth c H locs cells slots Q (F0 m pc ls rest)) : W p l e R s m args below meth c H locs cells slots Q (F0 m pc ls (.int i :: .null :: rest)) := by
  intro T hT X
  obtain ⟨t, st, q⟩ := k T hT X
  exact ⟨t, X.aaloadNull hexec (g := F0 m pc ls (.int i :: .null :: rest)) rfl (rest := rest) rfl (by rw [hb]; exact hdg) t st, q⟩
theorem vx_baloadN (hexec : p.tables.exec = Jvm.exec) (hb : c.code = cc) {i : Int32} (hdg : decode cc pc = .ok (.baload, 1)) (k : vx_NoteN p l e R s m args below meth c H locs cells slots Q (F0 m pc ls rest)) : W p l e R s m args below meth c H locs cells slots Q (F0 m pc ls (.int i :: .null :: rest)) := by
  intro T hT X
  obtain ⟨t, st, q⟩ := k T hT X
  exact ⟨t, X.baloadNull hexec (g := F0 m pc ls (.int i :: .null :: rest)) rfl (rest := rest) rfl (by rw [hb]; exact hdg) t st, q⟩
theorem vx_caloadN (hexec : p.tables.exec = Jvm.exec) (hb : c.code = cc) {i : Int32} (hdg : decode cc pc = .ok (.caload, 1)) (k : vx_NoteN p l e R s m args below meth c H locs cells slots Q (F0 m pc ls rest)) : W p l e R s m args below meth c H locs cells slots Q (F0 m pc ls (.int i :: .null :: rest)) := by
  intro T hT X
  obtain ⟨t, st, q⟩ := k T hT X
  exact ⟨t, X.caloadNull hexec (g := F0 m pc ls (.int i :: .null :: rest)) rfl (rest := rest) rfl (by rw [hb]; exact hdg) t st, q⟩
theorem vx_saloadN (hexec : p.tables.exec = Jvm.exec) (hb : c.code = cc) {i : Int32} (hdg : decode cc pc = .ok (.saload, 1)) (k : vx_NoteN p l e R s m args below meth c H locs cells slots Q (F0 m pc ls rest)) : W p l e R s m args below meth c H locs cells slots Q (F0 m pc ls (.int i :: .null :: rest)) := by
  intro T hT X
  obtain ⟨t, st, q⟩ := k T hT X
  exact ⟨t, X.saloadNull hexec (g := F0 m pc ls (.int i :: .null :: rest)) rfl (rest := rest) rfl (by rw [hb]; exact hdg) t st, q⟩
theorem vx_iastoreN (hexec : p.tables.exec = Jvm.exec) (hb : c.code = cc) {x : Int32} {i : Int32} (hdg : decode cc pc = .ok (.iastore, 1)) (k : vx_NoteN p l e R s m args below meth c H locs cells slots Q (F0 m pc ls rest)) : W p l e R s m args below meth c H locs cells slots Q (F0 m pc ls (.int x :: .int i :: .null :: rest)) := by
  intro T hT X
  obtain ⟨t, st, q⟩ := k T hT X
  exact ⟨t, X.iastoreNull hexec (g := F0 m pc ls (.int x :: .int i :: .null :: rest)) rfl (rest := rest) rfl (by rw [hb]; exact hdg) t st, q⟩
theorem vx_lastoreN (hexec : p.tables.exec = Jvm.exec) (hb : c.code = cc) {x : Int64} {i : Int32} (hdg : decode cc pc = .ok (.lastore, 1)) (k : vx_NoteN p l e R s m args below meth c H locs cells slots Q (F0 m pc ls rest)) : W p l e R s m args below meth c H locs cells slots Q (F0 m pc ls (.long x :: .int i :: .null :: rest)) := by
  intro T hT X
  obtain ⟨t, st, q⟩ := k T hT X
  exact ⟨t, X.lastoreNull hexec (g := F0 m pc ls (.long x :: .int i :: .null :: rest)) rfl (rest := rest) rfl (by rw [hb]; exact hdg) t st, q⟩
theorem vx_fastoreN (hexec : p.tables.exec = Jvm.exec) (hb : c.code = cc) {x : UInt32} {i : Int32} (hdg : decode cc pc = .ok (.fastore, 1)) (k : vx_NoteN p l e R s m args below meth c H locs cells slots Q (F0 m pc ls rest)) : W p l e R s m args below meth c H locs cells slots Q (F0 m pc ls (.float x :: .int i :: .null :: rest)) := by
  intro T hT X
  obtain ⟨t, st, q⟩ := k T hT X
  exact ⟨t, X.fastoreNull hexec (g := F0 m pc ls (.float x :: .int i :: .null :: rest)) rfl (rest := rest) rfl (by rw [hb]; exact hdg) t st, q⟩
theorem vx_dastoreN (hexec : p.tables.exec = Jvm.exec) (hb : c.code = cc) {x : UInt64} {i : Int32} (hdg : decode cc pc = .ok (.dastore, 1)) (k : vx_NoteN p l e R s m args below meth c H locs cells slots Q (F0 m pc ls rest)) : W p l e R s m args below meth c H locs cells slots Q (F0 m pc ls (.double x :: .int i :: .null :: rest)) := by
  intro T hT X
  obtain ⟨t, st, q⟩ := k T hT X
  exact ⟨t, X.dastoreNull hexec (g := F0 m pc ls (.double x :: .int i :: .null :: rest)) rfl (rest := rest) rfl (by rw [hb]; exact hdg) t st, q⟩
theorem vx_bastoreN (hexec : p.tables.exec = Jvm.exec) (hb : c.code = cc) {x : Int32} {i : Int32} (hdg : decode cc pc = .ok (.bastore, 1)) (k : vx_NoteN p l e R s m args below meth c H locs cells slots Q (F0 m pc ls rest)) : W p l e R s m args below meth c H locs cells slots Q (F0 m pc ls (.int x :: .int i :: .null :: rest)) := by
  intro T hT X
  obtain ⟨t, st, q⟩ := k T hT X
  exact ⟨t, X.bastoreNull hexec (g := F0 m pc ls (.int x :: .int i :: .null :: rest)) rfl (rest := rest) rfl (by rw [hb]; exact hdg) t st, q⟩
theorem vx_castoreN (hexec : p.tables.exec = Jvm.exec) (hb : c.code = cc) {x : Int32} {i : Int32} (hdg : decode cc pc = .ok (.castore, 1)) (k : vx_NoteN p l e R s m args below meth c H locs cells slots Q (F0 m pc ls rest)) : W p l e R s m args below meth c H locs cells slots Q (F0 m pc ls (.int x :: .int i :: .null :: rest)) := by
  intro T hT X
  obtain ⟨t, st, q⟩ := k T hT X
  exact ⟨t, X.castoreNull hexec (g := F0 m pc ls (.int x :: .int i :: .null :: rest)) rfl (rest := rest) rfl (by rw [hb]; exact hdg) t st, q⟩
theorem vx_sastoreN (hexec : p.tables.exec = Jvm.exec) (hb : c.code = cc) {x : Int32} {i : Int32} (hdg : decode cc pc = .ok (.sastore, 1)) (k : vx_NoteN p l e R s m args below meth c H locs cells slots Q (F0 m pc ls rest)) : W p l e R s m args below meth c H locs cells slots Q (F0 m pc ls (.int x :: .int i :: .null :: rest)) := by
  intro T hT X
  obtain ⟨t, st, q⟩ := k T hT X
  exact ⟨t, X.sastoreNull hexec (g := F0 m pc ls (.int x :: .int i :: .null :: rest)) rfl (rest := rest) rfl (by rw [hb]; exact hdg) t st, q⟩
theorem vx_invokeN {own C : String} {index maxL : Nat} {y : MethodName} {bytes : ByteArray} {ret : Option FieldType} (hexec : p.tables.exec = Jvm.exec) (hb : c.code = cc) (hown : s.vm.findClass own = some m.cls) (hlink : (Cond.methodLink own index y).before args s = true) (hinst : (Cond.instanceMethod y).before args s = true) (hcode : (Cond.code y bytes maxL ret).before args s = true) (hsel : (Cond.selects C y y).before args s = true)
    (hx : y.cls ≠ "java/lang/invoke/MethodHandle" ∧ y.cls ≠ "java/lang/invoke/VarHandle") {As : List Value} (hlen : (parseMethodDescriptor y.desc).map (fun d => d.parameters.length) = some As.length) (hdg : decode cc pc = .ok (.invokevirtual index, 3))
    (k : vx_NoteN p l e R s m args below meth c H locs cells slots Q (F0 m pc ls rest)) {st0 : List Value} (hst : st0 = As.reverse ++ .null :: rest) : W p l e R s m args below meth c H locs cells slots Q (F0 m pc ls st0) := by
  intro T hT X
  obtain ⟨r0, r, hn, hrm, hstR, hsigR⟩ := va_Decl.of hinst hcode
  obtain ⟨c2, r2, m2, q1, q2, q3, q4, kP, hkP, hkPi⟩ := Cond.selects_spec hsel
  cases hn.symm.trans q3
  have hl9 : As.length = r.sig.parameters.length := by
    rw [hsigR] at hlen
    exact (Option.some.inj hlen).symm
  obtain ⟨vm', X1, st1⟩ := X.invokevirtualNull hexec hown hlink hn hrm hstR hkP hkPi hx (g := F0 m pc ls st0) rfl (argsL := As) (rest := rest) hl9 hst (by rw [hb]; exact hdg)
  obtain ⟨t, st, q⟩ := k (T.setVm vm') hT X1
  exact ⟨t, st1 t st, q⟩
theorem vx_newarrayZ {atype : ArrayType} (hexec : p.tables.exec = Jvm.exec) (hb : c.code = cc) {n : Int32} (h0 : n < 0) (hdg : decode cc pc = .ok (.newarray atype, 2)) (k : ∀ tx : String, tx = toString n → vx_Note p l e R s m args below meth c H locs cells slots Q (F0 m pc ls rest) "java/lang/NegativeArraySizeException" tx) : W p l e R s m args below meth c H locs cells slots Q (F0 m pc ls (.int n :: rest)) := by
  intro T hT X
  obtain ⟨t, st, q⟩ := k _ rfl T hT X
  exact ⟨t, X.newarrayNegative hexec (g := F0 m pc ls (.int n :: rest)) rfl h0 (rest := rest) rfl (by rw [hb]; exact hdg) t st, q⟩
end
end VXM
/-! ===== END ===== -/
/-! ===== BEGIN an exception as an object: made, kept, thrown later (no traces kept) ===== -/
section VXK
variable {p : Program} {l : Launch} {e : Env} {R : Room} {s : State} {m₀ : MethodId} {args : Array Value} {below : List Frame} {meth : Method} {c : Code} {W : State} {locs : List Loc} {cells slots : Nat}
set_option maxHeartbeats 1000000 in
theorem vx_ctorMadeS (X : Stand p l e R s m₀ args below meth c W locs cells slots) (hexec : p.tables.exec = Jvm.exec) (htr : e.platform.stackTraces = false) {own cls : String} {names : List String} {ic : Nat}
    (hown : s.vm.findClass own = some m₀.cls) (hcls : Bundle.fit cls = true) (hnames : ∀ n ∈ names, Bundle.fit n = true)
    (h : ∀ a ∈ Bundle.ownAtoms own ic cls names, a.before args s = true)
    (hlocs : ∀ x ∈ locs, ∀ cell, s.heap[x.base]? = some cell → cell.vm.isStatics = false)
    {a : Addr} {cX : ClassId} {kX : Class} (hfoundX : s.vm.findClass cls = some cX) (hkX : s.vm.classes[cX]? = some kX) (hcell : W.heap[a]? = some (freshCell cX kX)) (hnew : s.heap.size ≤ a)
    {msg : Value} (hmsg : msg.isRef = true)
    {g : JFrame} (hg : g.method = m₀) (hsize : g.locals.size = c.maxLocals) {rest : List Value} (hstack : g.stack = msg :: .ref a :: .ref a :: rest)
    (hd6 : decode c.code g.pc = .ok (.invokespecial ic, 3))
    (hRframes : names.length + 3 < R.frames) (hRlocals : 2 * g.monitorRoom + ((Value.ref a :: rest).map fun v => v.category).sum + (13 * (names.length + 1) + 42) ≤ R.locals) :
    ∃ (V : State) (ce : Cell) (L : List Loc), Stand p l e R s m₀ args below meth c (V.setCell a ce) (locs ++ L) cells slots ∧ (∀ y ∈ L, y.base = a) ∧ a < V.heap.size ∧ ce.cls = cX ∧ ce.vm = .none ∧
      ∀ target, Steps p.tables e below ((V.setCell a ce).setTop { g with stack := .ref a :: rest, pc := g.pc + 3 }) target → Steps p.tables e below (W.setTop g) target := by
  have howns : e.platform.frameOwnsMonitors = true := by rw [X.admits.platform]
  have hfin : e.platform.finalization = false := by rw [X.admits.platform]
  have hpl : e.platform.magicAccessors = ({} : Platform).magicAccessors := by rw [X.admits.platform]
  have a' : ∀ x, x ∈ Bundle.ownAtoms own ic cls names → x.holds args s none s [] = true := fun x hx => h x hx
  obtain ⟨T, Z0, L, -, Y⟩ := ThrowableC.of_atoms (args := args) howns hfin hpl (fun x hx => h x (by simp [Bundle.ownAtoms, hx]))
  obtain ⟨Z, M, LZ, LM, hnZ⟩ := Init0T.ofS_atoms (args := args) hpl L Y (fun x hx => h x (by simp [Bundle.ownAtoms, hx]))
  obtain ⟨P1, Ps, hlen, L1, hL, hP1m, hlink1, hlink⟩ := Bundle.chainS (args := args) hpl hnZ names cls hcls hnames (fun x hx => h x (by simp [Bundle.ownAtoms, hx]))
  have hfound : s.vm.findClass cls = some P1.m.cls := findClass_of_methodNamed hP1m
  cases Option.some.inj (hfoundX.symm.trans hfound)
  obtain ⟨c1, kX', hc1, hk, hord, -, -, hn6⟩ := Cond.instantiable_spec (a' (.instantiable cls 6) (by simp [Bundle.ownAtoms]))
  cases Option.some.inj (hc1.symm.trans hfound)
  cases Option.some.inj (hkX.symm.trans hk)
  have hsel0 : selectMethod e.platform s.vm P1.m.cls T.fill0 = .method T.fill0 := by
    obtain ⟨c2, r2, m2, q1, q2, q3, q4, -⟩ := Cond.selects_spec (a' (.selects cls Bundle.tFill0 Bundle.tFill0) (by simp [Bundle.ownAtoms]))
    cases Option.some.inj (q1.symm.trans hfound)
    cases Option.some.inj (q2.symm.trans (State.methodFound?_of_named Y.fill0 (by decide)))
    cases Option.some.inj (q3.symm.trans Y.fill0)
    rw [Launch.admits_selectMethod X.admits]; exact q4
  have hselF : selectMethod e.platform s.vm P1.m.cls T.fill = .method T.fill := by
    obtain ⟨c2, r2, m2, q1, q2, q3, q4, -⟩ := Cond.selects_spec (a' (.selects cls Bundle.tFill Bundle.tFill) (by simp [Bundle.ownAtoms]))
    cases Option.some.inj (q1.symm.trans hfound)
    cases Option.some.inj (q2.symm.trans (State.methodFound?_of_named Y.fill (by decide)))
    cases Option.some.inj (q3.symm.trans Y.fill)
    rw [Launch.admits_selectMethod X.admits]; exact q4
  obtain ⟨cellS0, hcS0, hiss⟩ := Y.statics
  obtain ⟨u0, hu0⟩ := Cond.staticRefV Y.unassigned L.unassignedStatic L.statics hcS0 hiss (a' (.isRef (.static Bundle.tN "UNASSIGNED_STACK" Bundle.steD)) (by simp [Bundle.ownAtoms]))
  obtain ⟨sen, hsen⟩ := Cond.staticRefV Y.sentinel L.sentinelStatic L.statics hcS0 hiss (a' (.isRef (.static Bundle.tN "SUPPRESSED_SENTINEL" Bundle.listD)) (by simp [Bundle.ownAtoms]))
  obtain ⟨ci198, i198, fB, hk198, hg198, ha198, hsB, -, hnB, htB, hffB⟩ := Cond.ownField (t := .object "java/lang/Object") Y.found L.cls (by decide +kernel) (a' (.fieldLink Bundle.tN 198 Bundle.tN "backtrace" "Ljava/lang/Object;") (by simp [Bundle.ownAtoms])) (a' (.lays Bundle.tN Bundle.tN "backtrace" "Ljava/lang/Object;") (by simp [Bundle.ownAtoms])) e.platform hpl
  obtain ⟨cellS, hcS', heS, -, hkeep⟩ := X.same.2.2.2.2.2 T.aS cellS0 hcS0
  have hcellS : W.heap[T.aS]? = some cellS := hcS'
  have hout' : ∀ i, (⟨T.aS, i⟩ : Loc) ∉ locs := fun i hmem => by
    have := hlocs _ hmem cellS0 hcS0
    rw [hiss] at this; cases this
  have hknownS : cellS.vm ≠ .unknown := by
    rw [heS]; intro hu
    rw [show cellS0.vm = .unknown from hu] at hiss
    cases hiss
  have hneS : T.aS ≠ a := Nat.ne_of_lt (Nat.lt_of_lt_of_le (Array.getElem?_eq_some_iff.mp hcS0).1 hnew)
  obtain ⟨iM, hffM⟩ := Y.msg
  obtain ⟨tyC, dC, hdC, hdnC⟩ := Cond.laysAt hfound hk Y.cause (a' (.lays cls Bundle.tN "cause" "Ljava/lang/Throwable;") (by simp [Bundle.ownAtoms]))
  obtain ⟨tyS, dS, hdS, hdnS⟩ := Cond.laysAt hfound hk Y.stack (a' (.lays cls Bundle.tN "stackTrace" Bundle.steD) (by simp [Bundle.ownAtoms]))
  obtain ⟨tyP, dP, hdP, hdnP⟩ := Cond.laysAt hfound hk Y.supp (a' (.lays cls Bundle.tN "suppressedExceptions" Bundle.listD) (by simp [Bundle.ownAtoms]))
  obtain ⟨tyM, dM, hdM, hdnM⟩ := Cond.laysAt hfound hk hffM (a' (.lays cls Bundle.tN "detailMessage" "Ljava/lang/String;") (by simp [Bundle.ownAtoms]))
  obtain ⟨tyB, dB, hdB, hdnB⟩ := Cond.laysAt hfound hk hffB (a' (.lays cls Bundle.tN "backtrace" "Ljava/lang/Object;") (by simp [Bundle.ownAtoms]))
  have bC := Cond.laysApart hdB hdC hdnB hdnC (by rw [hnB, Y.causeName]; decide)
  have bS := Cond.laysApart hdB hdS hdnB hdnS (by rw [hnB, Y.stackName]; decide)
  have bP := Cond.laysApart hdB hdP hdnB hdnP (by rw [hnB, Y.suppName]; decide)
  have hskip : SkipFacts T e.platform s (fun u => u) u0 ((preparedCellV T.toThrowableT (freshCell P1.m.cls kX) a u0 sen).withEntry W.cur) :=
    ⟨{ ci198 := ci198, i198 := i198, fBack := fB }, ⟨hk198, hg198, ha198, hsB⟩, by
      have := fresh_default (c := P1.m.cls) tyB
      rw [htB] at this
      simpa [preparedCellV, Cell.setSlot, Cell.withEntry, Array.getElem?_setIfInBounds, bC, bS, bP, bC.symm, bS.symm, bP.symm, defaultValue] using this, fun _ _ => rfl⟩
  obtain ⟨tm, methC, cdC, kC, vm₁, hnC, -, -, -, -, -, -, -, hW₁, st1⟩ := Steps.initColdS (tb := p.tables) (e := e) (below := below) (s := s) (U := W) X.here hexec X.warmed hpl hown (t := Bundle.initS cls) rfl rfl (Bundle.fit_spec hcls).2
    (a' (.methodLink own ic (Bundle.initS cls)) (by simp [Bundle.ownAtoms])) (h (.instanceMethod (Bundle.initS cls)) (by cases names <;> simp [Bundle.ownAtoms, Bundle.chainSAtoms, Bundle.passSAtoms])) (bytes := Bundle.six) (maxL := 2) (h (.code (Bundle.initS cls) Bundle.six 2 none) (by cases names <;> simp [Bundle.ownAtoms, Bundle.chainSAtoms, Bundle.passSAtoms]))
    (f := g) hg (a := a) (msg := msg) (rest := .ref a :: rest) hstack hd6
  cases Option.some.inj (hnC.symm.trans hP1m)
  have X₁ := X.noted hW₁
  obtain ⟨vm₂, X₂, st2⟩ := X₁.ctorMessageOffV hexec (g := { g with stack := .ref a :: rest }) hg hsize T L Z LZ M LM (P1 :: Ps)
    (fun P hP => by rcases List.mem_cons.mp hP with rfl | hP; exact L1; exact hL P hP) ⟨hlink1, hlink⟩ (u0 := u0) (sen := sen) (self := a) hmsg (cell := freshCell P1.m.cls kX) (cellS := cellS)
    hcell (fun _ => by simp) (by simp) rfl rfl hsel0 hselF hcellS hneS hknownS (by rw [hkeep _ (hout' _)]; exact hu0) (by rw [hkeep _ (hout' _)]; exact hsen)
    (Takes.of_laid hk hord tyC (by rw [Y.causeType]; rfl)) (Takes.of_laid hk hord tyS (by rw [Y.stackType]; exact fits_refV_array _ u0)) (Takes.of_laid hk hord tyP (by rw [Y.suppType]; exact fits_refV_object _ sen))
    (Takes.of_laid hk hord tyM (by rw [Y.msgType]; exact fits_refV_object _ ⟨msg, hmsg⟩)) Y.objLocals hskip htr [] hd6
    (by simp only [List.length_cons, hlen]; omega) (by simp only [List.length_cons, hlen]; exact hRlocals)
  have hlt : a < ((W.setVm vm₁).setVm vm₂).heap.size := (Array.getElem?_eq_some_iff.mp hcell).1
  refine ⟨(W.setVm vm₁).setVm vm₂, _, _, X₂, fun y hy => ?_, hlt, rfl, rfl, fun target hwalk => st1 _ (fun acts => ?_)⟩
  · simp only [List.mem_cons, List.not_mem_nil, or_false] at hy
    rcases hy with rfl | rfl | rfl | rfl | rfl <;> rfl
  · rw [doInvoke_state]
    exact st2 _ hwalk
set_option maxHeartbeats 1000000 in
theorem vx_ctorMade0 (X : Stand p l e R s m₀ args below meth c W locs cells slots) (hexec : p.tables.exec = Jvm.exec) (htr : e.platform.stackTraces = false) {own cls : String} {names : List String} {ic : Nat}
    (hown : s.vm.findClass own = some m₀.cls) (hcls : Bundle.fit cls = true) (hnames : ∀ n ∈ names, Bundle.fit n = true)
    (h : ∀ a ∈ Bundle.ownAtoms0 own ic cls names, a.before args s = true)
    (hlocs : ∀ x ∈ locs, ∀ cell, s.heap[x.base]? = some cell → cell.vm.isStatics = false)
    {a : Addr} {cX : ClassId} {kX : Class} (hfoundX : s.vm.findClass cls = some cX) (hkX : s.vm.classes[cX]? = some kX) (hcell : W.heap[a]? = some (freshCell cX kX)) (hnew : s.heap.size ≤ a)
    {g : JFrame} (hg : g.method = m₀) (hsize : g.locals.size = c.maxLocals) {rest : List Value} (hstack : g.stack = .ref a :: .ref a :: rest)
    (hd6 : decode c.code g.pc = .ok (.invokespecial ic, 3))
    (hRframes : names.length + 3 < R.frames) (hRlocals : 2 * g.monitorRoom + ((Value.ref a :: rest).map fun v => v.category).sum + (13 * (names.length + 1) + 41) ≤ R.locals) :
    ∃ (V : State) (ce : Cell) (L : List Loc), Stand p l e R s m₀ args below meth c (V.setCell a ce) (locs ++ L) cells slots ∧ (∀ y ∈ L, y.base = a) ∧ a < V.heap.size ∧ ce.cls = cX ∧ ce.vm = .none ∧
      ∀ target, Steps p.tables e below ((V.setCell a ce).setTop { g with stack := .ref a :: rest, pc := g.pc + 3 }) target → Steps p.tables e below (W.setTop g) target := by
  have howns : e.platform.frameOwnsMonitors = true := by rw [X.admits.platform]
  have hfin : e.platform.finalization = false := by rw [X.admits.platform]
  have hpl : e.platform.magicAccessors = ({} : Platform).magicAccessors := by rw [X.admits.platform]
  have a' : ∀ x, x ∈ Bundle.ownAtoms0 own ic cls names → x.holds args s none s [] = true := fun x hx => h x hx
  obtain ⟨T, Z, L, LZ, Y⟩ := ThrowableC.of_atoms (args := args) howns hfin hpl (fun x hx => h x (by simp [Bundle.ownAtoms0, hx]))
  obtain ⟨P1, Ps, hlen, L1, hL, hP1m, hlink1, hlink⟩ := Bundle.chain0 (args := args) hpl Y.init0 names cls hcls hnames (fun x hx => h x (by simp [Bundle.ownAtoms0, hx]))
  have hfound : s.vm.findClass cls = some P1.m.cls := findClass_of_methodNamed hP1m
  cases Option.some.inj (hfoundX.symm.trans hfound)
  obtain ⟨c1, kX', hc1, hk, hord, -, -, hn6⟩ := Cond.instantiable_spec (a' (.instantiable cls 6) (by simp [Bundle.ownAtoms0]))
  cases Option.some.inj (hc1.symm.trans hfound)
  cases Option.some.inj (hkX.symm.trans hk)
  have hsel0 : selectMethod e.platform s.vm P1.m.cls T.fill0 = .method T.fill0 := by
    obtain ⟨c2, r2, m2, q1, q2, q3, q4, -⟩ := Cond.selects_spec (a' (.selects cls Bundle.tFill0 Bundle.tFill0) (by simp [Bundle.ownAtoms0]))
    cases Option.some.inj (q1.symm.trans hfound)
    cases Option.some.inj (q2.symm.trans (State.methodFound?_of_named Y.fill0 (by decide)))
    cases Option.some.inj (q3.symm.trans Y.fill0)
    rw [Launch.admits_selectMethod X.admits]; exact q4
  have hselF : selectMethod e.platform s.vm P1.m.cls T.fill = .method T.fill := by
    obtain ⟨c2, r2, m2, q1, q2, q3, q4, -⟩ := Cond.selects_spec (a' (.selects cls Bundle.tFill Bundle.tFill) (by simp [Bundle.ownAtoms0]))
    cases Option.some.inj (q1.symm.trans hfound)
    cases Option.some.inj (q2.symm.trans (State.methodFound?_of_named Y.fill (by decide)))
    cases Option.some.inj (q3.symm.trans Y.fill)
    rw [Launch.admits_selectMethod X.admits]; exact q4
  obtain ⟨cellS0, hcS0, hiss⟩ := Y.statics
  obtain ⟨u0, hu0⟩ := Cond.staticRefV Y.unassigned L.unassignedStatic L.statics hcS0 hiss (a' (.isRef (.static Bundle.tN "UNASSIGNED_STACK" Bundle.steD)) (by simp [Bundle.ownAtoms0]))
  obtain ⟨sen, hsen⟩ := Cond.staticRefV Y.sentinel L.sentinelStatic L.statics hcS0 hiss (a' (.isRef (.static Bundle.tN "SUPPRESSED_SENTINEL" Bundle.listD)) (by simp [Bundle.ownAtoms0]))
  obtain ⟨ci198, i198, fB, hk198, hg198, ha198, hsB, -, hnB, htB, hffB⟩ := Cond.ownField (t := .object "java/lang/Object") Y.found L.cls (by decide +kernel) (a' (.fieldLink Bundle.tN 198 Bundle.tN "backtrace" "Ljava/lang/Object;") (by simp [Bundle.ownAtoms0])) (a' (.lays Bundle.tN Bundle.tN "backtrace" "Ljava/lang/Object;") (by simp [Bundle.ownAtoms0])) e.platform hpl
  obtain ⟨cellS, hcS', heS, -, hkeep⟩ := X.same.2.2.2.2.2 T.aS cellS0 hcS0
  have hcellS : W.heap[T.aS]? = some cellS := hcS'
  have hout' : ∀ i, (⟨T.aS, i⟩ : Loc) ∉ locs := fun i hmem => by
    have := hlocs _ hmem cellS0 hcS0
    rw [hiss] at this; cases this
  have hknownS : cellS.vm ≠ .unknown := by
    rw [heS]; intro hu
    rw [show cellS0.vm = .unknown from hu] at hiss
    cases hiss
  have hneS : T.aS ≠ a := Nat.ne_of_lt (Nat.lt_of_lt_of_le (Array.getElem?_eq_some_iff.mp hcS0).1 hnew)
  obtain ⟨iM, hffM⟩ := Y.msg
  obtain ⟨tyC, dC, hdC, hdnC⟩ := Cond.laysAt hfound hk Y.cause (a' (.lays cls Bundle.tN "cause" "Ljava/lang/Throwable;") (by simp [Bundle.ownAtoms0]))
  obtain ⟨tyS, dS, hdS, hdnS⟩ := Cond.laysAt hfound hk Y.stack (a' (.lays cls Bundle.tN "stackTrace" Bundle.steD) (by simp [Bundle.ownAtoms0]))
  obtain ⟨tyP, dP, hdP, hdnP⟩ := Cond.laysAt hfound hk Y.supp (a' (.lays cls Bundle.tN "suppressedExceptions" Bundle.listD) (by simp [Bundle.ownAtoms0]))
  obtain ⟨tyM, dM, hdM, hdnM⟩ := Cond.laysAt hfound hk hffM (a' (.lays cls Bundle.tN "detailMessage" "Ljava/lang/String;") (by simp [Bundle.ownAtoms0]))
  obtain ⟨tyB, dB, hdB, hdnB⟩ := Cond.laysAt hfound hk hffB (a' (.lays cls Bundle.tN "backtrace" "Ljava/lang/Object;") (by simp [Bundle.ownAtoms0]))
  have bC := Cond.laysApart hdB hdC hdnB hdnC (by rw [hnB, Y.causeName]; decide)
  have bS := Cond.laysApart hdB hdS hdnB hdnS (by rw [hnB, Y.stackName]; decide)
  have bP := Cond.laysApart hdB hdP hdnB hdnP (by rw [hnB, Y.suppName]; decide)
  have hskip : SkipFacts T e.platform s (fun u => u) u0 ((preparedCellV T.toThrowableT (freshCell P1.m.cls kX) a u0 sen).withEntry W.cur) :=
    ⟨{ ci198 := ci198, i198 := i198, fBack := fB }, ⟨hk198, hg198, ha198, hsB⟩, by
      have := fresh_default (c := P1.m.cls) tyB
      rw [htB] at this
      simpa [preparedCellV, Cell.setSlot, Cell.withEntry, Array.getElem?_setIfInBounds, bC, bS, bP, bC.symm, bS.symm, bP.symm, defaultValue] using this, fun _ _ => rfl⟩
  obtain ⟨tm, methC, cdC, kC, vm₁, hnC, -, -, -, -, -, -, -, hW₁, st1⟩ := Steps.initCold (tb := p.tables) (e := e) (below := below) (s := s) (U := W) X.here hexec X.warmed hpl hown (t := Bundle.init0 cls) rfl rfl (Bundle.fit_spec hcls).2
    (a' (.methodLink own ic (Bundle.init0 cls)) (by simp [Bundle.ownAtoms0])) (h (.instanceMethod (Bundle.init0 cls)) (by cases names <;> simp [Bundle.ownAtoms0, Bundle.chain0Atoms, Bundle.passAtoms])) (bytes := Bundle.five) (maxL := 1) (h (.code (Bundle.init0 cls) Bundle.five 1 none) (by cases names <;> simp [Bundle.ownAtoms0, Bundle.chain0Atoms, Bundle.passAtoms]))
    (f := g) hg (a := a) (rest := .ref a :: rest) hstack hd6
  cases Option.some.inj (hnC.symm.trans hP1m)
  have X₁ := X.noted hW₁
  obtain ⟨vm₂, X₂, st2⟩ := X₁.ctorPlainOffV hexec (g := { g with stack := .ref a :: rest }) hg hsize T L Z LZ (P1 :: Ps)
    (fun P hP => by rcases List.mem_cons.mp hP with rfl | hP; exact L1; exact hL P hP) ⟨hlink1, hlink⟩ (u0 := u0) (sen := sen) (self := a) (cell := freshCell P1.m.cls kX) (cellS := cellS)
    hcell (fun _ => by simp) (by simp) rfl rfl hsel0 hselF hcellS hneS hknownS (by rw [hkeep _ (hout' _)]; exact hu0) (by rw [hkeep _ (hout' _)]; exact hsen)
    (Takes.of_laid hk hord tyC (by rw [Y.causeType]; rfl)) (Takes.of_laid hk hord tyS (by rw [Y.stackType]; exact fits_refV_array _ u0)) (Takes.of_laid hk hord tyP (by rw [Y.suppType]; exact fits_refV_object _ sen)) Y.objLocals hskip htr [] hd6
    (by simp only [List.length_cons, hlen]; omega) (by simp only [List.length_cons, hlen]; exact hRlocals)
  have hlt : a < ((W.setVm vm₁).setVm vm₂).heap.size := (Array.getElem?_eq_some_iff.mp hcell).1
  refine ⟨(W.setVm vm₁).setVm vm₂, _, _, X₂, fun y hy => ?_, hlt, rfl, rfl, fun target hwalk => st1 _ (fun acts => ?_)⟩
  · simp only [List.mem_cons, List.not_mem_nil, or_false] at hy
    rcases hy with rfl | rfl | rfl | rfl <;> rfl
  · rw [doInvoke_state]
    exact st2 _ hwalk
end VXK
section VXK2
variable {p : Program} {l : Launch} {e : Env} {R : Room} {s : State} {m : MethodId} {args : Array Value} {below : List Frame} {meth : Method} {c : Code} {H : Heap} {locs : List Loc} {cells slots : Nat} {Q : State → Prop}
variable {ls : Array Slot} {rest : List Value} {D : va_G} {cl : List vw_C} {tys : List (ClassId × FieldType)} {ws : va_W}
/-- 'new E("text")' that isn't thrown at once: the object goes on the stack -/
theorem vx_makeS {cc : ByteArray} {pc : Nat} (hexec : p.tables.exec = Jvm.exec) (hb : c.code = cc) (hl : l.stackTraces = false) {own cls text : String} {names : List String} {ik is ic sa ci : Nat} {A : Nat → Prop} {T0 : u_T}
    (hown : s.vm.findClass own = some m.cls) (hcls : Bundle.fit cls = true) (hnames : ∀ n ∈ names, Bundle.fit n = true)
    (hk : (Cond.classLink own ik cls).before args s = true) (hini : (Cond.initialized cls).before args s = true) (hstr : vk_R own is text sa s) (hat : ∀ w ∈ vx_atS own ic cls names, w.before args s = true)
    (hgood : ∀ w ∈ Cond.classLink own ik cls :: Cond.initialized cls :: vx_atS own ic cls names, vx_ot w = true)
    (hU : vx_Zq Bundle.tN "UNASSIGNED_STACK" Bundle.steD A s s.heap) (hN : vx_Zq Bundle.tN "SUPPRESSED_SENTINEL" Bundle.listD A s s.heap) (hS : va_S A s.heap H locs) (hsize : ls.size = c.maxLocals)
    (d0 : decode cc pc = .ok (.new ik, 3)) (d3 : decode cc (pc + 3) = .ok (.dup, 1)) (d4 : decode cc (pc + 4) = .ok (.ldc is, 2)) (d6 : decode cc (pc + 6) = .ok (.invokespecial ic, 3))
    (hK : va_K D cl tys s) (hP : va_P D cl ws H) (hD : va_D A ws) (hA : ∀ q, s.heap.size ≤ q → A q) (hc : cl[ci]? = some (cls, T0, 0))
    (hRframes : names.length + 3 < R.frames) (hRlocals : (rest.map fun v => v.category).sum + (13 * (names.length + 1) + 43) ≤ R.locals) (hRcells : cells + 1 ≤ R.cells) (hRslots : slots + 6 ≤ R.slots)
    (kk : ∀ (q : Nat) (H1 : Heap), va_P D cl (ws ++ [(q, .inr (ci, []))]) H1 → va_D A (ws ++ [(q, .inr (ci, []))]) → va_S A s.heap H1 locs → W p l e R s m args below meth c H1 locs (cells + 1) (slots + 6) Q (F0 m (pc + 9) ls (.ref q :: rest))) :
    W p l e R s m args below meth c H locs cells slots Q (F0 m pc ls rest) := by
  intro T hT X
  subst hT
  have htr : e.platform.stackTraces = false := (show e.platform.stackTraces = l.stackTraces by rw [X.admits.platform]).trans hl
  have Y := vx_rebase X (R' := { frames := R.frames, locals := R.locals, cells := 1, slots := 6 }) (Nat.le_refl _) (Nat.le_refl _) hRcells hRslots
  obtain ⟨s', hA'⟩ : ∃ z, z = (T.setVm s.vm).setFrames (.invoking m args :: below) := ⟨_, rfl⟩
  rw [← hA'] at Y
  have hvm : s'.vm = s.vm := by rw [hA']; rfl
  have hhp : s'.heap = T.heap := by rw [hA']; rfl
  have hW0 : s.WarmedH s'.vm := by rw [hvm]; exact State.WarmedH.refl s
  have hat' : ∀ w ∈ vx_atS own ic cls names, w.before args s' = true := fun w hw => vx_ot_at hW0 hvm.symm (hgood w (List.mem_cons_of_mem _ (List.mem_cons_of_mem _ hw))) (hat w hw)
  have hk' : (Cond.classLink own ik cls).before args s' = true := vx_ot_at hW0 hvm.symm (hgood _ List.mem_cons_self) hk
  have hini' : (Cond.initialized cls).before args s' = true := vx_ot_at hW0 hvm.symm (hgood _ (List.mem_cons_of_mem _ List.mem_cons_self)) hini
  have hU' : vx_Zq Bundle.tN "UNASSIGNED_STACK" Bundle.steD A s' s'.heap := by rw [hhp]; exact vx_Zq.moved hW0.alike (hU.kept hS.2.1)
  have hN' : vx_Zq Bundle.tN "SUPPRESSED_SENTINEL" Bundle.listD A s' s'.heap := by rw [hhp]; exact vx_Zq.moved hW0.alike (hN.kept hS.2.1)
  have h : ∀ w ∈ Bundle.ownAtoms own ic cls names, w.before args s' = true := vx_own hat' (vx_isRefq hU'.1) (vx_isRefq hN'.1) hU'.2.word hN'.2.word
  have hown' : s'.vm.findClass own = some m.cls := by rw [hvm]; exact hown
  have hins : (Cond.instantiable cls 6).before args s' = true := h _ (by simp [Bundle.ownAtoms])
  obtain ⟨vm₁, cX, kX, hfX, hkX, -, -, X₁, st1⟩ := Y.newCold hexec (own := own) (C := cls) (index := ik) (n := 6) hown' hk' hins hini'
    (g := F0 m pc ls rest) rfl (by rw [hb]; exact d0) (Nat.le_refl _) (Nat.le_refl _)
  generalize hT1 : (T.setVm vm₁).pushCell { cls := cX, slots := kX.instanceTypes.map defaultValue, vm := .none } = T1 at X₁ st1
  have hcat : (Value.ref T.heap.size).category = 1 := rfl
  have hcellA : T1.heap[T.heap.size]? = some (freshCell cX kX) := by rw [← hT1]; exact State.heap_pushCell_size _ _
  have d3' : decode c.code (pc + 3) = .ok (.dup, 1) := by rw [hb]; exact d3
  have d4' : decode c.code (pc + 4) = .ok (.ldc is, 2) := by rw [hb]; exact d4
  have hstr' : vk_R own is text sa s' := vk_R.warm hW0 hstr
  obtain ⟨V, ce, L, Z, hL, hlt, hcl9, hvm9, st⟩ := vx_ctorMadeS X₁ hexec htr (own := own) (cls := cls) (names := names) (ic := ic) hown' hcls hnames h (fun x hx => nomatch hx) hfX hkX hcellA (by rw [hhp]; exact Nat.le_refl _) (msg := .ref sa) rfl
    (g := { method := m, pc := pc + 6, locals := ls, stack := .ref sa :: .ref T.heap.size :: .ref T.heap.size :: rest, locked := none }) rfl hsize (rest := rest) rfl
    (by rw [hb]; exact d6) hRframes (by simp only [List.map_cons, List.sum_cons, hcat]; omega)
  have Z0 := Stand.forget (locs := []) Z (fun y hy => by rw [hL y hy, hhp]; exact Nat.le_refl _)
  obtain ⟨f1, f2⟩ := vx_frame Z0.same
  rw [hhp] at f1 f2
  have hcid : ce.cls = D.1 ci := by
    rw [hcl9]
    have h1 := (hK.1 ci _ hc).2.1
    rw [hvm] at hfX
    exact Option.some.inj (hfX.symm.trans h1)
  have hh : (V.setCell T.heap.size ce).heap[T.heap.size]? = some ce := heapAt_setCell_self (s := V) ce hlt
  subst hA'
  have X5 := vx_back9 X Y Z0
  have X6 : Stand p l e R s m args below meth c (V.setCell T.heap.size ce) locs (cells + 1) (slots + 6) := { X5 with same := X5.same.mono (by omega) (by omega) }
  have hk9 : ∀ (k : Nat) (x : Nat × va_E), ws[k]? = some x → (V.setCell T.heap.size ce).heap[x.1]? = T.heap[x.1]? := fun k x hx => f2 x.1 ((hP k x hx).lt) (fun z hz => nomatch hz)
  obtain ⟨t, a1, b1⟩ := kk T.heap.size (V.setCell T.heap.size ce).heap ((hP.kept hk9).app (fun k x hx => by
      have hz : k < 1 := (List.getElem?_eq_some_iff.mp hx).1
      rw [show k = 0 by omega] at hx
      cases hx
      exact ⟨_, hc, ce, hh, hcid, hvm9, fun k hk => absurd hk (Nat.not_lt_zero k)⟩)) (hD.push hP rfl (hA _ hS.1)) ⟨Nat.le_trans hS.1 f1, fun q h1 h2 => (f2 q (Nat.lt_of_lt_of_le h1 hS.1) (fun z hz => nomatch hz)).trans (hS.2.1 q h1 h2), hS.2.2⟩ _ rfl X6
  refine ⟨t, st1 _ ?_, b1⟩
  show Steps p.tables e below (T1.setTop { method := m, pc := pc + 3, locals := ls, stack := .ref T.heap.size :: rest, locked := none }) _
  jvm_step X₁.here [X₁.here.top, hexec, d3', Value.category]
  exact X₁.ldcString hexec (own := own) (text := text) (index := is) (a := sa) hown' hstr'.1 hstr'.2
    (g := { method := m, pc := pc + 4, locals := ls, stack := .ref T.heap.size :: .ref T.heap.size :: rest, locked := none }) rfl d4' _ (st _ a1)
/-- 'new E()' that isn't thrown at once: the object goes on the stack -/
theorem vx_make0 {cc : ByteArray} {pc : Nat} (hexec : p.tables.exec = Jvm.exec) (hb : c.code = cc) (hl : l.stackTraces = false) {own cls : String} {names : List String} {ik ic ci : Nat} {A : Nat → Prop} {T0 : u_T}
    (hown : s.vm.findClass own = some m.cls) (hcls : Bundle.fit cls = true) (hnames : ∀ n ∈ names, Bundle.fit n = true)
    (hk : (Cond.classLink own ik cls).before args s = true) (hini : (Cond.initialized cls).before args s = true) (hat : ∀ w ∈ vx_at0 own ic cls names, w.before args s = true)
    (hgood : ∀ w ∈ Cond.classLink own ik cls :: Cond.initialized cls :: vx_at0 own ic cls names, vx_ot w = true)
    (hU : vx_Zq Bundle.tN "UNASSIGNED_STACK" Bundle.steD A s s.heap) (hN : vx_Zq Bundle.tN "SUPPRESSED_SENTINEL" Bundle.listD A s s.heap) (hS : va_S A s.heap H locs) (hsize : ls.size = c.maxLocals)
    (d0 : decode cc pc = .ok (.new ik, 3)) (d3 : decode cc (pc + 3) = .ok (.dup, 1)) (d4 : decode cc (pc + 4) = .ok (.invokespecial ic, 3))
    (hK : va_K D cl tys s) (hP : va_P D cl ws H) (hD : va_D A ws) (hA : ∀ q, s.heap.size ≤ q → A q) (hc : cl[ci]? = some (cls, T0, 0))
    (hRframes : names.length + 3 < R.frames) (hRlocals : (rest.map fun v => v.category).sum + (13 * (names.length + 1) + 42) ≤ R.locals) (hRcells : cells + 1 ≤ R.cells) (hRslots : slots + 6 ≤ R.slots)
    (kk : ∀ (q : Nat) (H1 : Heap), va_P D cl (ws ++ [(q, .inr (ci, []))]) H1 → va_D A (ws ++ [(q, .inr (ci, []))]) → va_S A s.heap H1 locs → W p l e R s m args below meth c H1 locs (cells + 1) (slots + 6) Q (F0 m (pc + 7) ls (.ref q :: rest))) :
    W p l e R s m args below meth c H locs cells slots Q (F0 m pc ls rest) := by
  intro T hT X
  subst hT
  have htr : e.platform.stackTraces = false := (show e.platform.stackTraces = l.stackTraces by rw [X.admits.platform]).trans hl
  have Y := vx_rebase X (R' := { frames := R.frames, locals := R.locals, cells := 1, slots := 6 }) (Nat.le_refl _) (Nat.le_refl _) hRcells hRslots
  obtain ⟨s', hA'⟩ : ∃ z, z = (T.setVm s.vm).setFrames (.invoking m args :: below) := ⟨_, rfl⟩
  rw [← hA'] at Y
  have hvm : s'.vm = s.vm := by rw [hA']; rfl
  have hhp : s'.heap = T.heap := by rw [hA']; rfl
  have hW0 : s.WarmedH s'.vm := by rw [hvm]; exact State.WarmedH.refl s
  have hat' : ∀ w ∈ vx_at0 own ic cls names, w.before args s' = true := fun w hw => vx_ot_at hW0 hvm.symm (hgood w (List.mem_cons_of_mem _ (List.mem_cons_of_mem _ hw))) (hat w hw)
  have hk' : (Cond.classLink own ik cls).before args s' = true := vx_ot_at hW0 hvm.symm (hgood _ List.mem_cons_self) hk
  have hini' : (Cond.initialized cls).before args s' = true := vx_ot_at hW0 hvm.symm (hgood _ (List.mem_cons_of_mem _ List.mem_cons_self)) hini
  have hU' : vx_Zq Bundle.tN "UNASSIGNED_STACK" Bundle.steD A s' s'.heap := by rw [hhp]; exact vx_Zq.moved hW0.alike (hU.kept hS.2.1)
  have hN' : vx_Zq Bundle.tN "SUPPRESSED_SENTINEL" Bundle.listD A s' s'.heap := by rw [hhp]; exact vx_Zq.moved hW0.alike (hN.kept hS.2.1)
  have h : ∀ w ∈ Bundle.ownAtoms0 own ic cls names, w.before args s' = true := vx_own hat' (vx_isRefq hU'.1) (vx_isRefq hN'.1) hU'.2.word hN'.2.word
  have hown' : s'.vm.findClass own = some m.cls := by rw [hvm]; exact hown
  have hins : (Cond.instantiable cls 6).before args s' = true := h _ (by simp [Bundle.ownAtoms0])
  obtain ⟨vm₁, cX, kX, hfX, hkX, -, -, X₁, st1⟩ := Y.newCold hexec (own := own) (C := cls) (index := ik) (n := 6) hown' hk' hins hini'
    (g := F0 m pc ls rest) rfl (by rw [hb]; exact d0) (Nat.le_refl _) (Nat.le_refl _)
  generalize hT1 : (T.setVm vm₁).pushCell { cls := cX, slots := kX.instanceTypes.map defaultValue, vm := .none } = T1 at X₁ st1
  have hcat : (Value.ref T.heap.size).category = 1 := rfl
  have hcellA : T1.heap[T.heap.size]? = some (freshCell cX kX) := by rw [← hT1]; exact State.heap_pushCell_size _ _
  have d3' : decode c.code (pc + 3) = .ok (.dup, 1) := by rw [hb]; exact d3
  obtain ⟨V, ce, L, Z, hL, hlt, hcl9, hvm9, st⟩ := vx_ctorMade0 X₁ hexec htr (own := own) (cls := cls) (names := names) (ic := ic) hown' hcls hnames h (fun x hx => nomatch hx) hfX hkX hcellA (by rw [hhp]; exact Nat.le_refl _)
    (g := { method := m, pc := pc + 4, locals := ls, stack := .ref T.heap.size :: .ref T.heap.size :: rest, locked := none }) rfl hsize (rest := rest) rfl
    (by rw [hb]; exact d4) hRframes (by simp only [List.map_cons, List.sum_cons, hcat]; omega)
  have Z0 := Stand.forget (locs := []) Z (fun y hy => by rw [hL y hy, hhp]; exact Nat.le_refl _)
  obtain ⟨f1, f2⟩ := vx_frame Z0.same
  rw [hhp] at f1 f2
  have hcid : ce.cls = D.1 ci := by
    rw [hcl9]
    have h1 := (hK.1 ci _ hc).2.1
    rw [hvm] at hfX
    exact Option.some.inj (hfX.symm.trans h1)
  have hh : (V.setCell T.heap.size ce).heap[T.heap.size]? = some ce := heapAt_setCell_self (s := V) ce hlt
  subst hA'
  have X5 := vx_back9 X Y Z0
  have X6 : Stand p l e R s m args below meth c (V.setCell T.heap.size ce) locs (cells + 1) (slots + 6) := { X5 with same := X5.same.mono (by omega) (by omega) }
  have hk9 : ∀ (k : Nat) (x : Nat × va_E), ws[k]? = some x → (V.setCell T.heap.size ce).heap[x.1]? = T.heap[x.1]? := fun k x hx => f2 x.1 ((hP k x hx).lt) (fun z hz => nomatch hz)
  obtain ⟨t, a1, b1⟩ := kk T.heap.size (V.setCell T.heap.size ce).heap ((hP.kept hk9).app (fun k x hx => by
      have hz : k < 1 := (List.getElem?_eq_some_iff.mp hx).1
      rw [show k = 0 by omega] at hx
      cases hx
      exact ⟨_, hc, ce, hh, hcid, hvm9, fun k hk => absurd hk (Nat.not_lt_zero k)⟩)) (hD.push hP rfl (hA _ hS.1)) ⟨Nat.le_trans hS.1 f1, fun q h1 h2 => (f2 q (Nat.lt_of_lt_of_le h1 hS.1) (fun z hz => nomatch hz)).trans (hS.2.1 q h1 h2), hS.2.2⟩ _ rfl X6
  refine ⟨t, st1 _ ?_, b1⟩
  show Steps p.tables e below (T1.setTop { method := m, pc := pc + 3, locals := ls, stack := .ref T.heap.size :: rest, locked := none }) _
  jvm_step X₁.here [X₁.here.top, hexec, d3', Value.category]
  exact st _ a1
/-- 'throw x' of an object that was made before -/
theorem vx_athrow {cc : ByteArray} {pc : Nat} (hexec : p.tables.exec = Jvm.exec) (hb : c.code = cc) {q : Addr} (hdg : decode cc pc = .ok (.athrow, 1)) (k : vx_W p l e R s m args below meth c H locs cells slots Q (F0 m pc ls rest) q) : W p l e R s m args below meth c H locs cells slots Q (F0 m pc ls (.ref q :: rest)) := by
  intro T hT X
  obtain ⟨t, st, hq⟩ := k T hT X
  refine ⟨t, ?_, hq⟩
  have hdg' : decode c.code pc = .ok (.athrow, 1) := by rw [hb]; exact hdg
  jvm_step X.here [X.here.top, hexec, hdg', athrow.wp_sem]
  exact st
end VXK2
/-! ===== END ===== -/
/-! ===== BEGIN a constructor that throws (launches without stack traces) ===== -/
section VXIA
variable {p : Program} {l : Launch} {e : Env} {R : Room} {s : State} {m : MethodId} {args : Array Value} {below : List Frame} {meth : Method} {c : Code} {T : State} {locs : List Loc} {cells slots : Nat}
theorem vx_callI (X : Stand p l e R s m args below meth c T locs cells slots) (hexec : p.tables.exec = Jvm.exec) {own : String} {index : Nat} {y : MethodName} {bytes : ByteArray} {maxL : Nat}
    (hown : s.vm.findClass own = some m.cls) (hy1 : y.name = "<init>") (hlink : (Cond.methodLink own index y).before args s = true) (hinst : (Cond.instanceMethod y).before args s = true)
    (hcode : (Cond.code y bytes maxL none).before args s = true) (hy : y.cls ≠ "java/lang/invoke/MethodHandle" ∧ y.cls ≠ "java/lang/invoke/VarHandle")
    {W9 : Nat} {Pre : Pt → Array Value → Prop} {Post : Pt → Array Value → Option Value → Pt → Prop} {PostX : Pt → Array Value → Addr → Pt → Prop} (hK : vx_Back l R p e below s args y 3 W9 Pre Post PostX)
    {g : JFrame} (hg : g.method = m) (hsize : g.locals.size = c.maxLocals) {a : Addr} {argsL rest : List Value} (hlen : ∀ sig, parseMethodDescriptor y.desc = some sig → argsL.length = sig.parameters.length)
    (hstack : g.stack = argsL.reverse ++ .ref a :: rest) (hW : 2 * g.monitorRoom + (rest.map fun v => v.category).sum ≤ W9) (hdg : decode c.code g.pc = .ok (.invokespecial index, 3))
    (hpre : ∀ vm₁, s.WarmedH vm₁ → Pre ⟨T.setVm vm₁, locs, cells, slots⟩ (Value.ref a :: argsL).toArray) :
    (∃ (v : Option Value) (vm₁ : Vm) (B : Pt), s.WarmedH vm₁ ∧ Stand p l e R s m args below meth c B.U B.locs B.cells B.slots ∧ Post ⟨T.setVm vm₁, locs, cells, slots⟩ (Value.ref a :: argsL).toArray v B ∧
      ∀ target, Steps p.tables e below (B.U.setTop { g with pc := g.pc + 3, stack := v.toList ++ rest }) target → Steps p.tables e below (T.setTop g) target) ∨
    (∃ (q : Addr) (vm₁ : Vm) (B : Pt), s.WarmedH vm₁ ∧ Stand p l e R s m args below meth c B.U B.locs B.cells B.slots ∧ PostX ⟨T.setVm vm₁, locs, cells, slots⟩ (Value.ref a :: argsL).toArray q B ∧
      Steps p.tables e below (T.setTop g) ((B.U.setTop { g with stack := rest }).pushFrame (.throwing q))) := by
  subst hg
  have hpl : e.platform.magicAccessors = ({} : Platform).magicAccessors := by rw [X.admits.platform]
  obtain ⟨mk, methM, cM, kP, vm₁, hnamed, hmethM, hcodeM, -, hlocalsM, -, hkP, -, hW₁, hstep₁⟩ := Steps.initColdArgs (e := e) X.here hexec X.warmed hpl hown hy1 hy hlink hinst hcode (f := g) rfl hlen hstack hdg
  have X₁ := X.noted hW₁
  rcases hK g.method meth c ⟨T.setVm vm₁, locs, cells, slots⟩ { g with stack := rest } (.invokespecial index) mk (Value.ref a :: argsL).toArray X₁ rfl hsize hdg hW (X₁.named hnamed) (hpre vm₁ X₁.warmed) with ⟨v, B, X', hpost, hsteps⟩ | ⟨q, B, X', hpost, hsteps⟩
  · exact Or.inl ⟨v, vm₁, B, X₁.warmed, X', hpost, fun target h => hstep₁ _ fun acts => by rw [doInvoke_state]; exact hsteps.trans h⟩
  · exact Or.inr ⟨q, vm₁, B, X₁.warmed, X', hpost, hstep₁ _ fun acts => by rw [doInvoke_state]; exact hsteps⟩
end VXIA
section VXIB
variable {p : Program} {l : Launch} {e : Env} {R : Room} {s : State} {m : MethodId} {args : Array Value} {below : List Frame} {meth : Method} {c : Code} {H : Heap} {locs : List Loc} {cells slots : Nat}
variable {y : MethodName} {bytes cc : ByteArray} {maxL nL mc ms n index : Nat} {ret : Option FieldType} {ws : List Cond} {rm : Room} {Pc : Array Value → State → Prop} {Qc : Array Value → State → Outcome → State → Prop} {XC : String → State → State → Prop} {free : Addr → Prop} {Ts : List Cond} {own C : String} {b : Addr} {As rest : List Value} {g : JFrame}
theorem vx_runI (S : CallFix p m c cc nL s args Ts own) (hM : vx_Met l y ws rm Pc Qc XC mc ms free) (cw : CallB R s args own index y bytes maxL none ws rm mc ms n ∧ y.name = "<init>" ∧ (Cond.instanceMethod y).before args s = true) (hp : PreS s H Pc (.ref b :: As))
    (hg : g.method = m) (hn : As.length = n) (hsize : g.locals.size = nL) (hstack : g.stack = As.reverse ++ .ref b :: rest) (hW : 2 * g.monitorRoom + (rest.map fun v => v.category).sum ≤ 8) (hdg : decode cc g.pc = .ok (.invokespecial index, 3)) (hf : cells + mc ≤ R.cells ∧ slots + ms ≤ R.slots) :
    vx_Run p l e R s m args below meth c H locs cells slots mc ms g rest (Qc (Value.ref b :: As).toArray) XC free := by
  have hK : vx_Back l R p e below s args y 3 8 (PreOf R mc ms Pc) (PostOf Qc mc ms free) (vx_Post XC mc ms free) := vx_callBack cw.1 hM hp.1
  obtain ⟨⟨-, -, -, -, -, -, hcode, -, hy, hlen, hl⟩, hy1, hin⟩ := cw
  obtain ⟨hx, hb, hml, ho, -⟩ := S
  have hPc := hp.2
  intro T hT X
  rcases vx_callI X hx (bytes := bytes) (maxL := maxL) ho hy1 hl hin hcode hy hK hg (hsize.trans hml.symm) (a := b) (argsL := As) (rest := rest) (fun sig h => hn.trans (hlen sig h)) hstack hW (by rw [hb]; exact hdg)
    (fun vm₁ hW₁ => ⟨hf.1, hf.2, hPc (T.setVm vm₁) hT hW₁⟩) with ⟨v, vm₁, ⟨U', l2, c2, s2⟩, hW₁, X', ⟨g', mk, t, L, e1, e2, hq, h1, hL, h2, h3⟩, st⟩ | ⟨q, vm₁, ⟨U', l2, c2, s2⟩, hW₁, X', ⟨g', mk, t, L, E, ce, e1, e2, hq, hce, hcv, hcl, h1, hL, h2, h3⟩, st⟩
  · dsimp only [Pt.U, Pt.locs, Pt.cells, Pt.slots] at X' e1 e2 h1 h2 h3 st
    subst h1; subst h2; subst h3
    exact Or.inl ⟨v, (T.setVm vm₁).calling g' mk (Value.ref b :: As).toArray, t, U', L, hT, X', hL, e1, e2, hq, st⟩
  · dsimp only [Pt.U, Pt.locs, Pt.cells, Pt.slots] at X' e1 e2 h1 h2 h3 st hcl
    subst h1; subst h2; subst h3
    exact Or.inr ⟨q, (T.setVm vm₁).calling g' mk (Value.ref b :: As).toArray, t, U', L, E, ce, hT, X', hL, e1, e2, hq, hce, hcv, vx_cls hW₁ hcl, st⟩
end VXIB
/-! ===== END ===== -/
/-! ===== BEGIN a private constructor of a nest mate that throws ===== -/
section VXIC
variable {p : Program} {l : Launch} {e : Env} {R : Room} {s : State} {m : MethodId} {args : Array Value} {below : List Frame} {meth : Method} {c : Code} {T : State} {locs : List Loc} {cells slots : Nat}
theorem vx_callIN (X : Stand p l e R s m args below meth c T locs cells slots) (hexec : p.tables.exec = Jvm.exec) {own : String} {index : Nat} {host : String} {y : MethodName} {bytes : ByteArray} {maxL : Nat}
    (hown : s.vm.findClass own = some m.cls) (hy1 : y.name = "<init>") (hlink : (Cond.methodLinkNest own index y host).before args s = true) (hinst : (Cond.instanceMethod y).before args s = true)
    (hcode : (Cond.code y bytes maxL none).before args s = true) (hy : y.cls ≠ "java/lang/invoke/MethodHandle" ∧ y.cls ≠ "java/lang/invoke/VarHandle")
    {W9 : Nat} {Pre : Pt → Array Value → Prop} {Post : Pt → Array Value → Option Value → Pt → Prop} {PostX : Pt → Array Value → Addr → Pt → Prop} (hK : vx_Back l R p e below s args y 3 W9 Pre Post PostX)
    {g : JFrame} (hg : g.method = m) (hsize : g.locals.size = c.maxLocals) {a : Addr} {argsL rest : List Value} (hlen : ∀ sig, parseMethodDescriptor y.desc = some sig → argsL.length = sig.parameters.length)
    (hstack : g.stack = argsL.reverse ++ .ref a :: rest) (hW : 2 * g.monitorRoom + (rest.map fun v => v.category).sum ≤ W9) (hdg : decode c.code g.pc = .ok (.invokespecial index, 3))
    (hpre : ∀ vm₁, s.WarmedH vm₁ → Pre ⟨T.setVm vm₁, locs, cells, slots⟩ (Value.ref a :: argsL).toArray) :
    (∃ (v : Option Value) (vm₁ : Vm) (B : Pt), s.WarmedH vm₁ ∧ Stand p l e R s m args below meth c B.U B.locs B.cells B.slots ∧ Post ⟨T.setVm vm₁, locs, cells, slots⟩ (Value.ref a :: argsL).toArray v B ∧
      ∀ target, Steps p.tables e below (B.U.setTop { g with pc := g.pc + 3, stack := v.toList ++ rest }) target → Steps p.tables e below (T.setTop g) target) ∨
    (∃ (q : Addr) (vm₁ : Vm) (B : Pt), s.WarmedH vm₁ ∧ Stand p l e R s m args below meth c B.U B.locs B.cells B.slots ∧ PostX ⟨T.setVm vm₁, locs, cells, slots⟩ (Value.ref a :: argsL).toArray q B ∧
      Steps p.tables e below (T.setTop g) ((B.U.setTop { g with stack := rest }).pushFrame (.throwing q))) := by
  subst hg
  have hpl : e.platform.magicAccessors = ({} : Platform).magicAccessors := by rw [X.admits.platform]
  obtain ⟨mk, methM, cM, kP, vm₁, hnamed, hmethM, hcodeM, -, hlocalsM, -, hkP, -, hW₁, hstep₁⟩ := Steps.initColdArgsNest (e := e) X.here hexec X.warmed hpl hown hy1 hy hlink hinst hcode (f := g) rfl hlen hstack hdg
  have X₁ := X.noted hW₁
  rcases hK g.method meth c ⟨T.setVm vm₁, locs, cells, slots⟩ { g with stack := rest } (.invokespecial index) mk (Value.ref a :: argsL).toArray X₁ rfl hsize hdg hW (X₁.named hnamed) (hpre vm₁ X₁.warmed) with ⟨v, B, X', hpost, hsteps⟩ | ⟨q, B, X', hpost, hsteps⟩
  · exact Or.inl ⟨v, vm₁, B, X₁.warmed, X', hpost, fun target h => hstep₁ _ fun acts => by rw [doInvoke_state]; exact hsteps.trans h⟩
  · exact Or.inr ⟨q, vm₁, B, X₁.warmed, X', hpost, hstep₁ _ fun acts => by rw [doInvoke_state]; exact hsteps⟩
end VXIC
section VXID
variable {p : Program} {l : Launch} {e : Env} {R : Room} {s : State} {m : MethodId} {args : Array Value} {below : List Frame} {meth : Method} {c : Code} {H : Heap} {locs : List Loc} {cells slots : Nat}
theorem vx_runIN {y : MethodName} {bytes cc : ByteArray} {maxL nL mc ms n index : Nat} {ws : List Cond} {rm : Room} {Pc : Array Value → State → Prop} {Qc : Array Value → State → Outcome → State → Prop} {XC : String → State → State → Prop} {free : Addr → Prop} {Ts : List Cond} {own host : String} {b : Addr} {As rest : List Value} {g : JFrame}
    (S : CallFix p m c cc nL s args Ts own) (hM : vx_Met l y ws rm Pc Qc XC mc ms free) (cw : va_CN R s args own index y host bytes maxL none ws rm mc ms n ∧ y.name = "<init>" ∧ (Cond.instanceMethod y).before args s = true) (hp : PreS s H Pc (.ref b :: As))
    (hg : g.method = m) (hn : As.length = n) (hsize : g.locals.size = nL) (hstack : g.stack = As.reverse ++ .ref b :: rest) (hW : 2 * g.monitorRoom + (rest.map fun v => v.category).sum ≤ 8) (hdg : decode cc g.pc = .ok (.invokespecial index, 3)) (hf : cells + mc ≤ R.cells ∧ slots + ms ≤ R.slots) :
    vx_Run p l e R s m args below meth c H locs cells slots mc ms g rest (Qc (Value.ref b :: As).toArray) XC free := by
  obtain ⟨⟨⟨hrc, hrs, hfr, hlo, hws, hcw⟩, hcode, hini, hy, hlen, hl⟩, hx1, hx2⟩ := cw
  have hK : vx_Back l R p e below s args y 3 8 (PreOf R mc ms Pc) (PostOf Qc mc ms free) (vx_Post XC mc ms free) := vx_back (bytes := bytes) (maxL := maxL) (ret := none) hM hp.1 hrc hrs hfr hlo hws hcw (fun a' U hW => word_at hW (Or.inl (by first | rfl | simp [Cond.onTables, Cond.keeps, Cond.steady])) hini)
  obtain ⟨hx, hb, hml, ho, -⟩ := S
  have hPc := hp.2
  intro T hT X
  rcases vx_callIN X hx (bytes := bytes) (maxL := maxL) ho hx1 hl hx2 hcode hy hK hg (hsize.trans hml.symm) (a := b) (argsL := As) (rest := rest) (fun sig h => hn.trans (hlen sig h)) hstack hW (by rw [hb]; exact hdg)
    (fun vm₁ hW₁ => ⟨hf.1, hf.2, hPc (T.setVm vm₁) hT hW₁⟩) with ⟨v, vm₁, ⟨U', l2, c2, s2⟩, hW₁, X', ⟨g', mk, t, L, e1, e2, hq, h1, hL, h2, h3⟩, st⟩ | ⟨q, vm₁, ⟨U', l2, c2, s2⟩, hW₁, X', ⟨g', mk, t, L, E, ce, e1, e2, hq, hce, hcv, hcl, h1, hL, h2, h3⟩, st⟩
  · dsimp only [Pt.U, Pt.locs, Pt.cells, Pt.slots] at X' e1 e2 h1 h2 h3 st
    subst h1; subst h2; subst h3
    exact Or.inl ⟨v, (T.setVm vm₁).calling g' mk (Value.ref b :: As).toArray, t, U', L, hT, X', hL, e1, e2, hq, st⟩
  · dsimp only [Pt.U, Pt.locs, Pt.cells, Pt.slots] at X' e1 e2 h1 h2 h3 st hcl
    subst h1; subst h2; subst h3
    exact Or.inr ⟨q, (T.setVm vm₁).calling g' mk (Value.ref b :: As).toArray, t, U', L, E, ce, hT, X', hL, e1, e2, hq, hce, hcv, vx_cls hW₁ hcl, st⟩
end VXID
/-! ===== END ===== -/
/-! ===== BEGIN a method of a class above, found by the receiver, that may throw (follows va_callVU, va_runU of this kit) ===== -/
section
variable {p : Program} {l : Launch} {e : Env} {R : Room} {s : State} {m : MethodId} {args : Array Value} {below : List Frame} {meth : Method} {c : Code} {H : Heap} {locs : List Loc} {cells slots : Nat}
theorem vx_callVU {T : State} {locs : List Loc} {cells slots : Nat} (X : Stand p l e R s m args below meth c T locs cells slots) (hexec : p.tables.exec = Jvm.exec) {own C owner : String} {index : Nat} {x y : MethodName} {bytes : ByteArray} {maxL : Nat} {ret : Option FieldType}
    (hown : s.vm.findClass own = some m.cls) (hlink : (Cond.methodLink own index x).before args s = true) (hsame : (Cond.sameMethod x.cls owner x.name x.desc).before args s = true)
    (hd0 : va_Decl s ⟨owner, x.name, x.desc⟩) (howner : owner ≠ "java/lang/invoke/MethodHandle" ∧ owner ≠ "java/lang/invoke/VarHandle")
    (hsel : (Cond.selects C x y).before args s = true) (hinst : (Cond.instanceMethod y).before args s = true) (hcode : (Cond.code y bytes maxL ret).before args s = true)
    {W : Nat} {Pre : Pt → Array Value → Prop} {Post : Pt → Array Value → Option Value → Pt → Prop} {PostX : Pt → Array Value → Addr → Pt → Prop} (hK : vx_Back l R p e below s args y 3 W Pre Post PostX)
    {b : Addr} {cellB : Cell} (hcell : T.heap[b]? = some cellB) (hobj : cellB.vm.isStatics = false) (hcls : s.vm.findClass C = some cellB.cls)
    {g : JFrame} (hg : g.method = m) (hsize : g.locals.size = c.maxLocals) {argsL rest : List Value} (hlen : ∀ sig, parseMethodDescriptor x.desc = some sig → argsL.length = sig.parameters.length)
    (hstack : g.stack = argsL.reverse ++ .ref b :: rest) (hW : 2 * g.monitorRoom + (rest.map fun v => v.category).sum ≤ W) (hdg : decode c.code g.pc = .ok (.invokevirtual index, 3))
    (hpre : ∀ vm₁, s.WarmedH vm₁ → Pre ⟨T.setVm vm₁, locs, cells, slots⟩ (Value.ref b :: argsL).toArray) :
    (∃ (v : Option Value) (vm₁ : Vm) (B : Pt), s.WarmedH vm₁ ∧ Stand p l e R s m args below meth c B.U B.locs B.cells B.slots ∧ Post ⟨T.setVm vm₁, locs, cells, slots⟩ (Value.ref b :: argsL).toArray v B ∧
      ∀ target, Steps p.tables e below (B.U.setTop { g with pc := g.pc + 3, stack := v.toList ++ rest }) target → Steps p.tables e below (T.setTop g) target) ∨
    (∃ (q : Addr) (vm₁ : Vm) (B : Pt), s.WarmedH vm₁ ∧ Stand p l e R s m args below meth c B.U B.locs B.cells B.slots ∧ PostX ⟨T.setVm vm₁, locs, cells, slots⟩ (Value.ref b :: argsL).toArray q B ∧
      Steps p.tables e below (T.setTop g) ((B.U.setTop { g with stack := rest }).pushFrame (.throwing q))) := by
  obtain ⟨r0, r, hn, hrm, hstR, hsigR⟩ := hd0
  obtain ⟨cn, ck, r1, hcn, hck, hni, hf, hn1⟩ := Cond.sameMethod_found hsame
  cases hn.symm.trans hn1
  obtain ⟨mk, methM, hnamed, hmethM, -, habM⟩ := Cond.instanceMethod_spec hinst
  obtain ⟨c2, r2, m2, q1, q2, q3, q4, kP, hkP, hkPi⟩ := Cond.selects_spec hsel
  cases hcls.symm.trans q1
  cases hf.symm.trans q2
  cases hnamed.symm.trans q3
  have hselP : selectMethod e.platform s.vm cellB.cls r0 = .method mk := by rw [Launch.admits_selectMethod X.admits]; exact q4
  obtain ⟨vm₁, X₁, hstep₁⟩ := X.invokevirtualUp hexec hown hlink hsame howner hn hrm hstR (a := b) (cell := cellB) hcell
    (fun z h => by rw [h] at hobj; cases hobj) hselP hmethM habM hkP hkPi (g := g) hg (argsL := argsL) (rest := rest) (hlen _ hsigR) hstack hdg
  rcases hK m meth c ⟨T.setVm vm₁, locs, cells, slots⟩ { g with stack := rest } (.invokevirtual index) mk (Value.ref b :: argsL).toArray X₁ hg hsize hdg hW (X₁.named hnamed) (hpre vm₁ X₁.warmed) with ⟨v, B, X', hpost, hsteps⟩ | ⟨q, B, X', hpost, hsteps⟩
  · exact Or.inl ⟨v, vm₁, B, X₁.warmed, X', hpost, fun target h => hstep₁ _ fun acts => by rw [doInvoke_state]; exact hsteps.trans h⟩
  · exact Or.inr ⟨q, vm₁, B, X₁.warmed, X', hpost, hstep₁ _ fun acts => by rw [doInvoke_state]; exact hsteps⟩
theorem vx_runU {x y : MethodName} {bytes cc : ByteArray} {maxL nL mc ms n index : Nat} {ret : Option FieldType} {ws : List Cond} {rm : Room} {Pc : Array Value → State → Prop} {Qc : Array Value → State → Outcome → State → Prop} {XC : String → State → State → Prop} {free : Addr → Prop} {Ts : List Cond} {own C owner : String} {b : Addr} {As rest : List Value} {g : JFrame}
    (S : CallFix p m c cc nL s args Ts own) (hM : vx_Met l y ws rm Pc Qc XC mc ms free) (cw : va_CU R s args own C owner index x y bytes maxL ret ws rm mc ms n) (hp : PreV s H C b Pc As)
    (hg : g.method = m) (hn : As.length = n) (hsize : g.locals.size = nL) (hstack : g.stack = As.reverse ++ .ref b :: rest) (hW : 2 * g.monitorRoom + (rest.map fun v => v.category).sum ≤ 8) (hdg : decode cc g.pc = .ok (.invokevirtual index, 3)) (hf : cells + mc ≤ R.cells ∧ slots + ms ≤ R.slots) :
    vx_Run p l e R s m args below meth c H locs cells slots mc ms g rest (Qc (Value.ref b :: As).toArray) XC free := by
  obtain ⟨hrc, hrs, hfr, hlo, hws, hcw⟩ := cw.back
  have hini := cw.init
  have hK : vx_Back l R p e below s args y 3 8 (PreOf R mc ms Pc) (PostOf Qc mc ms free) (vx_Post XC mc ms free) := vx_back (bytes := bytes) (maxL := maxL) (ret := ret) hM hp.1 hrc hrs hfr hlo hws hcw (fun a' U hW => word_at hW (Or.inl (by first | rfl | simp [Cond.onTables, Cond.keeps, Cond.steady])) hini)
  obtain ⟨hx, hb, hml, ho, -⟩ := S
  obtain ⟨-, ⟨cellB, hcB, hoB, hclB⟩, hPc⟩ := hp
  intro T hT X
  rcases vx_callVU X hx (C := C) (owner := owner) (bytes := bytes) (maxL := maxL) (ret := ret) ho cw.link cw.same cw.decl cw.notMH cw.sel cw.inst cw.code hK (by rw [hT]; exact hcB) hoB hclB hg (hsize.trans hml.symm) (argsL := As) (rest := rest) (fun sig h => hn.trans (cw.len sig h)) hstack hW (by rw [hb]; exact hdg)
    (fun vm₁ hW₁ => ⟨hf.1, hf.2, hPc (T.setVm vm₁) hT hW₁⟩) with ⟨v, vm₁, ⟨U', l2, c2, s2⟩, hW₁, X', ⟨g', mk, t, L, e1, e2, hq, h1, hL, h2, h3⟩, st⟩ | ⟨q, vm₁, ⟨U', l2, c2, s2⟩, hW₁, X', ⟨g', mk, t, L, E, ce, e1, e2, hq, hce, hcv, hcl, h1, hL, h2, h3⟩, st⟩
  · dsimp only [Pt.U, Pt.locs, Pt.cells, Pt.slots] at X' e1 e2 h1 h2 h3 st
    subst h1; subst h2; subst h3
    exact Or.inl ⟨v, (T.setVm vm₁).calling g' mk (Value.ref b :: As).toArray, t, U', L, hT, X', hL, e1, e2, hq, st⟩
  · dsimp only [Pt.U, Pt.locs, Pt.cells, Pt.slots] at X' e1 e2 h1 h2 h3 st hcl
    subst h1; subst h2; subst h3
    exact Or.inr ⟨q, (T.setVm vm₁).calling g' mk (Value.ref b :: As).toArray, t, U', L, E, ce, hT, X', hL, e1, e2, hq, hce, hcv, vx_cls hW₁ hcl, st⟩
end
/-! ===== END ===== -/
/-! ===== BEGIN super.m(..) that may throw (follows va_callSU, va_runSU) ===== -/
section
variable {p : Program} {l : Launch} {e : Env} {R : Room} {s : State} {m : MethodId} {args : Array Value} {below : List Frame} {meth : Method} {c : Code} {H : Heap} {locs : List Loc} {cells slots : Nat}
theorem vx_callSU {T : State} {locs : List Loc} {cells slots : Nat} (X : Stand p l e R s m args below meth c T locs cells slots) (hexec : p.tables.exec = Jvm.exec) {own : String} {index : Nat} {y : MethodName} {bytes : ByteArray} {maxL : Nat} {ret : Option FieldType}
    (hown : s.vm.findClass own = some m.cls) (hlink : (Cond.methodLink own index y).before args s = true) (hsame : (Cond.sameMethod y.cls y.cls y.name y.desc).before args s = true) (hsup : (Cond.superclass own y.cls).before args s = true)
    (hinst : (Cond.instanceMethod y).before args s = true) (hcode : (Cond.code y bytes maxL ret).before args s = true) (hno : y.name ≠ "<init>")
    {W : Nat} {Pre : Pt → Array Value → Prop} {Post : Pt → Array Value → Option Value → Pt → Prop} {PostX : Pt → Array Value → Addr → Pt → Prop} (hK : vx_Back l R p e below s args y 3 W Pre Post PostX)
    {b : Addr} {cellB : Cell} {kB : Class} (hcell : T.heap[b]? = some cellB) (hobj : cellB.vm.isStatics = false) (hkB : s.vm.classes[cellB.cls]? = some kB)
    {g : JFrame} (hg : g.method = m) (hsize : g.locals.size = c.maxLocals) {argsL rest : List Value} (hlen : ∀ sig, parseMethodDescriptor y.desc = some sig → argsL.length = sig.parameters.length)
    (hstack : g.stack = argsL.reverse ++ .ref b :: rest) (hW : 2 * g.monitorRoom + (rest.map fun v => v.category).sum ≤ W) (hdg : decode c.code g.pc = .ok (.invokespecial index, 3))
    (hpre : ∀ vm₁, s.WarmedH vm₁ → Pre ⟨T.setVm vm₁, locs, cells, slots⟩ (Value.ref b :: argsL).toArray) :
    (∃ (v : Option Value) (vm₁ : Vm) (B : Pt), s.WarmedH vm₁ ∧ Stand p l e R s m args below meth c B.U B.locs B.cells B.slots ∧ Post ⟨T.setVm vm₁, locs, cells, slots⟩ (Value.ref b :: argsL).toArray v B ∧
      ∀ target, Steps p.tables e below (B.U.setTop { g with pc := g.pc + 3, stack := v.toList ++ rest }) target → Steps p.tables e below (T.setTop g) target) ∨
    (∃ (q : Addr) (vm₁ : Vm) (B : Pt), s.WarmedH vm₁ ∧ Stand p l e R s m args below meth c B.U B.locs B.cells B.slots ∧ PostX ⟨T.setVm vm₁, locs, cells, slots⟩ (Value.ref b :: argsL).toArray q B ∧
      Steps p.tables e below (T.setTop g) ((B.U.setTop { g with stack := rest }).pushFrame (.throwing q))) := by
  obtain ⟨mk, methM, hnamed, hmethM, hstM, habM⟩ := Cond.instanceMethod_spec hinst
  obtain ⟨methM', cM, hmethM', -, -, -, -, -, -, hsigM⟩ := Cond.code_spec hnamed hcode
  cases hmethM.symm.trans hmethM'
  obtain ⟨ps, dk, kp, hps, hdk, hkp, hsuper, -, -, hnid⟩ := Cond.superclass_spec hown hsup
  have hn : s.methodNamed? ⟨y.cls, y.name, y.desc⟩ = some mk := hnamed
  have hpm : ps = mk.cls := Option.some.inj (hps.symm.trans (findClass_of_methodNamed hnamed))
  have hsub : s.vm.isSubclass ps mk.cls = true := by rw [hpm]; simp [Vm.isSubclass, Vm.isSubclassAux]
  obtain ⟨vm₁, X₁, hstep₁⟩ := X.invokespecialUp hexec hown hlink hsame hn hmethM hstM habM hno hdk hnid hps hsuper hsub (a := b) (cell := cellB) hcell
    (fun z h => by rw [h] at hobj; cases hobj) hkB (g := g) hg (argsL := argsL) (rest := rest) (hlen _ hsigM) hstack hdg
  rcases hK m meth c ⟨T.setVm vm₁, locs, cells, slots⟩ { g with stack := rest } (.invokespecial index) mk (Value.ref b :: argsL).toArray X₁ hg hsize hdg hW (X₁.named hnamed) (hpre vm₁ X₁.warmed) with ⟨v, B, X', hpost, hsteps⟩ | ⟨q, B, X', hpost, hsteps⟩
  · exact Or.inl ⟨v, vm₁, B, X₁.warmed, X', hpost, fun target h => hstep₁ _ (by rw [doInvoke_state]; exact hsteps.trans h)⟩
  · exact Or.inr ⟨q, vm₁, B, X₁.warmed, X', hpost, hstep₁ _ (by rw [doInvoke_state]; exact hsteps)⟩
theorem vx_runSU {y : MethodName} {bytes cc : ByteArray} {maxL nL mc ms n index : Nat} {ret : Option FieldType} {ws : List Cond} {rm : Room} {Pc : Array Value → State → Prop} {Qc : Array Value → State → Outcome → State → Prop} {XC : String → State → State → Prop} {free : Addr → Prop} {Ts : List Cond} {own C : String} {cC : ClassId} {b : Addr} {As rest : List Value} {g : JFrame}
    (hat : ClassAt s C cC) (S : CallFix p m c cc nL s args Ts own) (hM : vx_Met l y ws rm Pc Qc XC mc ms free) (cw : va_CS R s args own index y bytes maxL ret ws rm mc ms n) (hp : PreV s H C b Pc As)
    (hg : g.method = m) (hn : As.length = n) (hsize : g.locals.size = nL) (hstack : g.stack = As.reverse ++ .ref b :: rest) (hW : 2 * g.monitorRoom + (rest.map fun v => v.category).sum ≤ 8) (hdg : decode cc g.pc = .ok (.invokespecial index, 3)) (hf : cells + mc ≤ R.cells ∧ slots + ms ≤ R.slots) :
    vx_Run p l e R s m args below meth c H locs cells slots mc ms g rest (Qc (Value.ref b :: As).toArray) XC free := by
  obtain ⟨⟨hrc, hrs, hfr, hlo, hws, hcw⟩, hl1, hl2, hl3, hl4, hini, hcode, hno, hlen⟩ := cw
  have hK : vx_Back l R p e below s args y 3 8 (PreOf R mc ms Pc) (PostOf Qc mc ms free) (vx_Post XC mc ms free) := vx_back (bytes := bytes) (maxL := maxL) (ret := ret) hM hp.1 hrc hrs hfr hlo hws hcw (fun a' U hW => word_at hW (Or.inl (by first | rfl | simp [Cond.onTables, Cond.keeps, Cond.steady])) hini)
  obtain ⟨hx, hb, hml, ho, -⟩ := S
  obtain ⟨-, ⟨cellB, hcB, hoB, hclB⟩, hPc⟩ := hp
  obtain ⟨hfc, kB, hkB, -⟩ := hat
  cases hfc.symm.trans hclB
  intro T hT X
  rcases vx_callSU X hx (bytes := bytes) (maxL := maxL) (ret := ret) ho hl1 hl2 hl3 hl4 hcode hno hK (by rw [hT]; exact hcB) hoB hkB hg (hsize.trans hml.symm) (argsL := As) (rest := rest) (fun sig h => hn.trans (hlen sig h)) hstack hW (by rw [hb]; exact hdg)
    (fun vm₁ hW₁ => ⟨hf.1, hf.2, hPc (T.setVm vm₁) hT hW₁⟩) with ⟨v, vm₁, ⟨U', l2, c2, s2⟩, hW₁, X', ⟨g', mk, t, L, e1, e2, hq, h1, hL, h2, h3⟩, st⟩ | ⟨q, vm₁, ⟨U', l2, c2, s2⟩, hW₁, X', ⟨g', mk, t, L, E, ce, e1, e2, hq, hce, hcv, hcl, h1, hL, h2, h3⟩, st⟩
  · dsimp only [Pt.U, Pt.locs, Pt.cells, Pt.slots] at X' e1 e2 h1 h2 h3 st
    subst h1; subst h2; subst h3
    exact Or.inl ⟨v, (T.setVm vm₁).calling g' mk (Value.ref b :: As).toArray, t, U', L, hT, X', hL, e1, e2, hq, st⟩
  · dsimp only [Pt.U, Pt.locs, Pt.cells, Pt.slots] at X' e1 e2 h1 h2 h3 st hcl
    subst h1; subst h2; subst h3
    exact Or.inr ⟨q, (T.setVm vm₁).calling g' mk (Value.ref b :: As).toArray, t, U', L, E, ce, hT, X', hL, e1, e2, hq, hce, hcv, vx_cls hW₁ hcl, st⟩
end
/-! ===== END ===== -/
/-! ===== BEGIN a private method of a nest mate that may throw (follows va_callVN, va_callSN, va_runVN, va_runSN) ===== -/
section
variable {p : Program} {l : Launch} {e : Env} {R : Room} {s : State} {m : MethodId} {args : Array Value} {below : List Frame} {meth : Method} {c : Code} {H : Heap} {locs : List Loc} {cells slots : Nat}
variable {T : State}
theorem vx_callVN (X : Stand p l e R s m args below meth c T locs cells slots) (hexec : p.tables.exec = Jvm.exec) {own C : String} {index : Nat} {host : String} {y : MethodName} {bytes : ByteArray} {maxL : Nat} {ret : Option FieldType}
    (hown : s.vm.findClass own = some m.cls) (hlink : (Cond.methodLinkNest own index y host).before args s = true) (hinst : (Cond.instanceMethod y).before args s = true) (hsel : (Cond.selects C y y).before args s = true)
    (hcode : (Cond.code y bytes maxL ret).before args s = true) (hy : y.cls ≠ "java/lang/invoke/MethodHandle" ∧ y.cls ≠ "java/lang/invoke/VarHandle")
    {W : Nat} {Pre : Pt → Array Value → Prop} {Post : Pt → Array Value → Option Value → Pt → Prop} {PostX : Pt → Array Value → Addr → Pt → Prop} (hK : vx_Back l R p e below s args y 3 W Pre Post PostX)
    {b : Addr} {cellB : Cell} (hcell : T.heap[b]? = some cellB) (hobj : cellB.vm.isStatics = false) (hcls : s.vm.findClass C = some cellB.cls)
    {g : JFrame} (hg : g.method = m) (hsize : g.locals.size = c.maxLocals) {argsL rest : List Value} (hlen : ∀ sig, parseMethodDescriptor y.desc = some sig → argsL.length = sig.parameters.length)
    (hstack : g.stack = argsL.reverse ++ .ref b :: rest) (hW : 2 * g.monitorRoom + (rest.map fun v => v.category).sum ≤ W) (hdg : decode c.code g.pc = .ok (.invokevirtual index, 3))
    (hpre : ∀ vm₁, s.WarmedH vm₁ → Pre ⟨T.setVm vm₁, locs, cells, slots⟩ (Value.ref b :: argsL).toArray) :
    (∃ (v : Option Value) (vm₁ : Vm) (B : Pt), s.WarmedH vm₁ ∧ Stand p l e R s m args below meth c B.U B.locs B.cells B.slots ∧ Post ⟨T.setVm vm₁, locs, cells, slots⟩ (Value.ref b :: argsL).toArray v B ∧
      ∀ target, Steps p.tables e below (B.U.setTop { g with pc := g.pc + 3, stack := v.toList ++ rest }) target → Steps p.tables e below (T.setTop g) target) ∨
    (∃ (q : Addr) (vm₁ : Vm) (B : Pt), s.WarmedH vm₁ ∧ Stand p l e R s m args below meth c B.U B.locs B.cells B.slots ∧ PostX ⟨T.setVm vm₁, locs, cells, slots⟩ (Value.ref b :: argsL).toArray q B ∧
      Steps p.tables e below (T.setTop g) ((B.U.setTop { g with stack := rest }).pushFrame (.throwing q))) := by
  obtain ⟨mk, methM, hnamed, hmethM, hstM, habM⟩ := Cond.instanceMethod_spec hinst
  obtain ⟨methM', cM, hmethM', -, -, -, -, -, -, hsigM⟩ := Cond.code_spec hnamed hcode
  cases hmethM.symm.trans hmethM'
  obtain ⟨c2, r2, m2, q1, q2, q3, q4, kP, hkP, hkPi⟩ := Cond.selects_spec hsel
  cases hcls.symm.trans q1
  cases (State.methodFound?_of_named hnamed hy).symm.trans q2
  cases hnamed.symm.trans q3
  have hselP : selectMethod e.platform s.vm cellB.cls mk = .method mk := by rw [Launch.admits_selectMethod X.admits]; exact q4
  obtain ⟨vm₁, X₁, hstep₁⟩ := X.invokevirtualNest hexec hown hlink hnamed hmethM hstM hkP hkPi hy (a := b) (cell := cellB) hcell
    (fun z h => by rw [h] at hobj; cases hobj) hselP hmethM habM hkP hkPi (g := g) hg (argsL := argsL) (rest := rest) (hlen _ hsigM) hstack hdg
  rcases hK m meth c ⟨T.setVm vm₁, locs, cells, slots⟩ { g with stack := rest } (.invokevirtual index) mk (Value.ref b :: argsL).toArray X₁ hg hsize hdg hW (X₁.named hnamed) (hpre vm₁ X₁.warmed) with ⟨v, B, X', hpost, hsteps⟩ | ⟨q, B, X', hpost, hsteps⟩
  · exact Or.inl ⟨v, vm₁, B, X₁.warmed, X', hpost, fun target h => hstep₁ _ fun acts => by rw [doInvoke_state]; exact hsteps.trans h⟩
  · exact Or.inr ⟨q, vm₁, B, X₁.warmed, X', hpost, hstep₁ _ fun acts => by rw [doInvoke_state]; exact hsteps⟩
theorem vx_callSN (X : Stand p l e R s m args below meth c T locs cells slots) (hexec : p.tables.exec = Jvm.exec) {own : String} {index : Nat} {host : String} {y : MethodName} {bytes : ByteArray} {maxL : Nat} {ret : Option FieldType}
    (hown : s.vm.findClass own = some m.cls) (hlink : (Cond.methodLinkNest own index y host).before args s = true) (hstat : (Cond.static y).before args s = true) (hinit : (Cond.initialized y.cls).before args s = true)
    (hcode : (Cond.code y bytes maxL ret).before args s = true) (hy : y.cls ≠ "java/lang/invoke/MethodHandle" ∧ y.cls ≠ "java/lang/invoke/VarHandle")
    {W : Nat} {Pre : Pt → Array Value → Prop} {Post : Pt → Array Value → Option Value → Pt → Prop} {PostX : Pt → Array Value → Addr → Pt → Prop} (hK : vx_Back l R p e below s args y 3 W Pre Post PostX)
    {g : JFrame} (hg : g.method = m) (hsize : g.locals.size = c.maxLocals) {argsL rest : List Value} (hlen : ∀ sig, parseMethodDescriptor y.desc = some sig → argsL.length = sig.parameters.length)
    (hstack : g.stack = argsL.reverse ++ rest) (hW : 2 * g.monitorRoom + (rest.map fun v => v.category).sum ≤ W) (hdg : decode c.code g.pc = .ok (.invokestatic index, 3))
    (hpre : ∀ vm₁, s.WarmedH vm₁ → Pre ⟨T.setVm vm₁, locs, cells, slots⟩ argsL.toArray) :
    (∃ (v : Option Value) (vm₁ : Vm) (B : Pt), s.WarmedH vm₁ ∧ Stand p l e R s m args below meth c B.U B.locs B.cells B.slots ∧ Post ⟨T.setVm vm₁, locs, cells, slots⟩ argsL.toArray v B ∧
      ∀ target, Steps p.tables e below (B.U.setTop { g with pc := g.pc + 3, stack := v.toList ++ rest }) target → Steps p.tables e below (T.setTop g) target) ∨
    (∃ (q : Addr) (vm₁ : Vm) (B : Pt), s.WarmedH vm₁ ∧ Stand p l e R s m args below meth c B.U B.locs B.cells B.slots ∧ PostX ⟨T.setVm vm₁, locs, cells, slots⟩ argsL.toArray q B ∧
      Steps p.tables e below (T.setTop g) ((B.U.setTop { g with stack := rest }).pushFrame (.throwing q))) := by
  obtain ⟨mk, hnamed⟩ := Cond.code_named hcode
  obtain ⟨methM, cM, hmethM, -, -, -, -, -, -, hsigM⟩ := Cond.code_spec hnamed hcode
  have hstatic : methM.isStatic = true := Cond.static_spec hnamed hmethM hstat
  obtain ⟨kP, hkP, -⟩ := className_of_methodNamed hnamed
  have hinitP : kP.init = .initialized := Cond.initialized_spec (findClass_of_methodNamed hnamed) hkP hinit
  obtain ⟨vm₁, X₁, hstep₁⟩ := X.invokestaticNest hexec hown hlink hnamed hmethM hstatic hkP hinitP hy (g := g) hg (argsL := argsL) (rest := rest) (hlen _ hsigM) hstack hdg
  rcases hK m meth c ⟨T.setVm vm₁, locs, cells, slots⟩ { g with stack := rest } (.invokestatic index) mk argsL.toArray X₁ hg hsize hdg hW (X₁.named hnamed) (hpre vm₁ X₁.warmed) with ⟨v, B, X', hpost, hsteps⟩ | ⟨q, B, X', hpost, hsteps⟩
  · exact Or.inl ⟨v, vm₁, B, X₁.warmed, X', hpost, fun target h => hstep₁ _ fun acts => by rw [doInvoke_state]; exact hsteps.trans h⟩
  · exact Or.inr ⟨q, vm₁, B, X₁.warmed, X', hpost, hstep₁ _ fun acts => by rw [doInvoke_state]; exact hsteps⟩
theorem vx_runVN {y : MethodName} {bytes cc : ByteArray} {maxL nL mc ms n index : Nat} {ret : Option FieldType} {ws : List Cond} {rm : Room} {Pc : Array Value → State → Prop} {Qc : Array Value → State → Outcome → State → Prop} {XC : String → State → State → Prop} {free : Addr → Prop} {Ts : List Cond} {own C host : String} {b : Addr} {As rest : List Value} {g : JFrame}
    (S : CallFix p m c cc nL s args Ts own) (hM : vx_Met l y ws rm Pc Qc XC mc ms free) (cw : va_CN R s args own index y host bytes maxL ret ws rm mc ms n ∧ (Cond.instanceMethod y).before args s = true ∧ (Cond.selects C y y).before args s = true) (hp : PreV s H C b Pc As)
    (hg : g.method = m) (hn : As.length = n) (hsize : g.locals.size = nL) (hstack : g.stack = As.reverse ++ .ref b :: rest) (hW : 2 * g.monitorRoom + (rest.map fun v => v.category).sum ≤ 8) (hdg : decode cc g.pc = .ok (.invokevirtual index, 3)) (hf : cells + mc ≤ R.cells ∧ slots + ms ≤ R.slots) :
    vx_Run p l e R s m args below meth c H locs cells slots mc ms g rest (Qc (Value.ref b :: As).toArray) XC free := by
  obtain ⟨⟨⟨hrc, hrs, hfr, hlo, hws, hcw⟩, hcode, hini, hy, hlen, hl⟩, hx1, hx2⟩ := cw
  have hK : vx_Back l R p e below s args y 3 8 (PreOf R mc ms Pc) (PostOf Qc mc ms free) (vx_Post XC mc ms free) := vx_back (bytes := bytes) (maxL := maxL) (ret := ret) hM hp.1 hrc hrs hfr hlo hws hcw (fun a' U hW => word_at hW (Or.inl (by first | rfl | simp [Cond.onTables, Cond.keeps, Cond.steady])) hini)
  obtain ⟨hx, hb, hml, ho, -⟩ := S
  obtain ⟨-, ⟨cellB, hcB, hoB, hclB⟩, hPc⟩ := hp
  intro T hT X
  rcases vx_callVN X hx (C := C) (bytes := bytes) (maxL := maxL) (ret := ret) ho hl hx1 hx2 hcode hy hK (by rw [hT]; exact hcB) hoB hclB hg (hsize.trans hml.symm) (argsL := As) (rest := rest) (fun sig h => hn.trans (hlen sig h)) hstack hW (by rw [hb]; exact hdg)
    (fun vm₁ hW₁ => ⟨hf.1, hf.2, hPc (T.setVm vm₁) hT hW₁⟩) with ⟨v, vm₁, ⟨U', l2, c2, s2⟩, hW₁, X', ⟨g', mk, t, L, e1, e2, hq, h1, hL, h2, h3⟩, st⟩ | ⟨q, vm₁, ⟨U', l2, c2, s2⟩, hW₁, X', ⟨g', mk, t, L, E, ce, e1, e2, hq, hce, hcv, hcl, h1, hL, h2, h3⟩, st⟩
  · dsimp only [Pt.U, Pt.locs, Pt.cells, Pt.slots] at X' e1 e2 h1 h2 h3 st
    subst h1; subst h2; subst h3
    exact Or.inl ⟨v, (T.setVm vm₁).calling g' mk (Value.ref b :: As).toArray, t, U', L, hT, X', hL, e1, e2, hq, st⟩
  · dsimp only [Pt.U, Pt.locs, Pt.cells, Pt.slots] at X' e1 e2 h1 h2 h3 st hcl
    subst h1; subst h2; subst h3
    exact Or.inr ⟨q, (T.setVm vm₁).calling g' mk (Value.ref b :: As).toArray, t, U', L, E, ce, hT, X', hL, e1, e2, hq, hce, hcv, vx_cls hW₁ hcl, st⟩
theorem vx_runSN {y : MethodName} {bytes cc : ByteArray} {maxL nL mc ms n index : Nat} {ret : Option FieldType} {ws : List Cond} {rm : Room} {Pc : Array Value → State → Prop} {Qc : Array Value → State → Outcome → State → Prop} {XC : String → State → State → Prop} {free : Addr → Prop} {Ts : List Cond} {own host : String} {As rest : List Value} {g : JFrame}
    (S : CallFix p m c cc nL s args Ts own) (hM : vx_Met l y ws rm Pc Qc XC mc ms free) (cw : va_CN R s args own index y host bytes maxL ret ws rm mc ms n ∧ (Cond.static y).before args s = true ∧ True) (hp : PreS s H Pc As)
    (hg : g.method = m) (hn : As.length = n) (hsize : g.locals.size = nL) (hstack : g.stack = As.reverse ++ rest) (hW : 2 * g.monitorRoom + (rest.map fun v => v.category).sum ≤ 8) (hdg : decode cc g.pc = .ok (.invokestatic index, 3)) (hf : cells + mc ≤ R.cells ∧ slots + ms ≤ R.slots) :
    vx_Run p l e R s m args below meth c H locs cells slots mc ms g rest (Qc As.toArray) XC free := by
  obtain ⟨⟨⟨hrc, hrs, hfr, hlo, hws, hcw⟩, hcode, hini, hy, hlen, hl⟩, hx1, hx2⟩ := cw
  have hK : vx_Back l R p e below s args y 3 8 (PreOf R mc ms Pc) (PostOf Qc mc ms free) (vx_Post XC mc ms free) := vx_back (bytes := bytes) (maxL := maxL) (ret := ret) hM hp.1 hrc hrs hfr hlo hws hcw (fun a' U hW => word_at hW (Or.inl (by first | rfl | simp [Cond.onTables, Cond.keeps, Cond.steady])) hini)
  obtain ⟨hx, hb, hml, ho, -⟩ := S
  have hPc := hp.2
  intro T hT X
  rcases vx_callSN X hx (bytes := bytes) (maxL := maxL) (ret := ret) ho hl hx1 hini hcode hy hK hg (hsize.trans hml.symm) (argsL := As) (rest := rest) (fun sig h => hn.trans (hlen sig h)) hstack hW (by rw [hb]; exact hdg)
    (fun vm₁ hW₁ => ⟨hf.1, hf.2, hPc (T.setVm vm₁) hT hW₁⟩) with ⟨v, vm₁, ⟨U', l2, c2, s2⟩, hW₁, X', ⟨g', mk, t, L, e1, e2, hq, h1, hL, h2, h3⟩, st⟩ | ⟨q, vm₁, ⟨U', l2, c2, s2⟩, hW₁, X', ⟨g', mk, t, L, E, ce, e1, e2, hq, hce, hcv, hcl, h1, hL, h2, h3⟩, st⟩
  · dsimp only [Pt.U, Pt.locs, Pt.cells, Pt.slots] at X' e1 e2 h1 h2 h3 st
    subst h1; subst h2; subst h3
    exact Or.inl ⟨v, (T.setVm vm₁).calling g' mk As.toArray, t, U', L, hT, X', hL, e1, e2, hq, st⟩
  · dsimp only [Pt.U, Pt.locs, Pt.cells, Pt.slots] at X' e1 e2 h1 h2 h3 st hcl
    subst h1; subst h2; subst h3
    exact Or.inr ⟨q, (T.setVm vm₁).calling g' mk As.toArray, t, U', L, E, ce, hT, X', hL, e1, e2, hq, hce, hcv, vx_cls hW₁ hcl, st⟩
end
/-! ===== END ===== -/
/-! ===== BEGIN calls by an interface of methods that may throw (vx_callIF, vx_runF follow va_callIF, va_runF of this kit) ===== -/
section
variable {p : Program} {l : Launch} {e : Env} {R : Room} {s : State} {m : MethodId} {args : Array Value} {below : List Frame} {meth : Method} {c : Code} {H : Heap} {locs : List Loc} {cells slots : Nat} {Q : State → Prop}
variable {mc ms : Nat} {free : Addr → Prop} {A0 A1 : Nat → Prop} {H0 : Heap} {a : Array Value} {pc : Nat} {ls : Array Slot} {st0 rest : List Value}
def vx_Run5 (p : Program) (l : Launch) (e : Env) (R : Room) (s : State) (m : MethodId) (args : Array Value) (below : List Frame) (meth : Method) (c : Code) (H : Heap) (locs : List Loc) (cells slots mc ms : Nat) (g : JFrame) (rest : List Value) (Qa : State → Outcome → State → Prop) (XC : String → State → State → Prop) (free : Addr → Prop) : Prop :=
  ∀ T : State, T.heap = H → Stand p l e R s m args below meth c T locs cells slots →
    (∃ (v : Option Value) (st₀ t T' : State) (L : List Loc), st₀.heap = H ∧ Stand p l e R s m args below meth c T' (locs ++ L) (cells + mc) (slots + ms) ∧ (∀ q ∈ L, free q.base) ∧ T'.heap = t.heap ∧ T'.vm = t.vm ∧ Qa st₀ (.returned v) t ∧
      Goes p e below T g T' { g with pc := g.pc + 5, stack := v.toList ++ rest }) ∨
    (∃ (q : Addr) (st₀ t T' : State) (L : List Loc) (E : String) (ce : Cell), st₀.heap = H ∧ Stand p l e R s m args below meth c T' (locs ++ L) (cells + mc) (slots + ms) ∧ (∀ z ∈ L, free z.base) ∧ T'.heap = t.heap ∧ T'.vm = t.vm ∧ XC E st₀ t ∧ t.heap[q]? = some ce ∧ ce.vm = .none ∧ s.vm.findClass E = some ce.cls ∧
      Steps p.tables e below (T.setTop g) ((T'.setTop { g with stack := rest }).pushFrame (.throwing q)))
theorem vx_callIF {T : State} (X : Stand p l e R s m args below meth c T locs cells slots) (hexec : p.tables.exec = Jvm.exec) {own C : String} {index count : Nat} {x y : MethodName} {bytes : ByteArray} {maxL : Nat} {ret : Option FieldType}
    (hown : s.vm.findClass own = some m.cls) (hlink : (Cond.methodLink own index x).before args s = true) (hdecl : (Cond.declares x).before args s = true) (hface : (Cond.interfaceMethod x.cls x.cls x.name x.desc).before args s = true)
    (hsel : (Cond.selects C x y).before args s = true) (hinst : (Cond.instanceMethod y).before args s = true) (hpub : (Cond.publicMethod y).before args s = true) (hunh : (Cond.unhidden C x.name x.desc).before args s = true)
    (hcast : (Cond.castable C x.cls).before args s = true) (hcode : (Cond.code y bytes maxL ret).before args s = true) (hx : x.cls ≠ "java/lang/invoke/MethodHandle" ∧ x.cls ≠ "java/lang/invoke/VarHandle")
    {W9 : Nat} {Pre : Pt → Array Value → Prop} {Post : Pt → Array Value → Option Value → Pt → Prop} {PostX : Pt → Array Value → Addr → Pt → Prop} (hK : vx_Back l R p e below s args y 5 W9 Pre Post PostX)
    {b : Addr} {cellB : Cell} {kB : Class} (hcell : T.heap[b]? = some cellB) (hobj : cellB.vm.isStatics = false) (hcls : s.vm.findClass C = some cellB.cls) (hkB : s.vm.classes[cellB.cls]? = some kB)
    {g : JFrame} (hg : g.method = m) (hsize : g.locals.size = c.maxLocals) {argsL rest : List Value} (hlen : ∀ sig, parseMethodDescriptor x.desc = some sig → argsL.length = sig.parameters.length)
    (hstack : g.stack = argsL.reverse ++ .ref b :: rest) (hW : 2 * g.monitorRoom + (rest.map fun v => v.category).sum ≤ W9) (hdg : decode c.code g.pc = .ok (.invokeinterface index count, 5))
    (hpre : ∀ vm₁, s.WarmedH vm₁ → Pre ⟨T.setVm vm₁, locs, cells, slots⟩ (Value.ref b :: argsL).toArray) :
    (∃ (v : Option Value) (vm₁ : Vm) (B : Pt), s.WarmedH vm₁ ∧ Stand p l e R s m args below meth c B.U B.locs B.cells B.slots ∧ Post ⟨T.setVm vm₁, locs, cells, slots⟩ (Value.ref b :: argsL).toArray v B ∧
      ∀ target, Steps p.tables e below (B.U.setTop { g with pc := g.pc + 5, stack := v.toList ++ rest }) target → Steps p.tables e below (T.setTop g) target) ∨
    (∃ (q : Addr) (vm₁ : Vm) (B : Pt), s.WarmedH vm₁ ∧ Stand p l e R s m args below meth c B.U B.locs B.cells B.slots ∧ PostX ⟨T.setVm vm₁, locs, cells, slots⟩ (Value.ref b :: argsL).toArray q B ∧
      Steps p.tables e below (T.setTop g) ((B.U.setTop { g with stack := rest }).pushFrame (.throwing q))) := by
  obtain ⟨r0, r, hn, hrm, hstR, hsigR⟩ := Cond.declares_spec hdecl
  obtain ⟨cL, kL, r1, hcL, hkL, hiL, hfoundL, hn1⟩ := Cond.interfaceMethod_spec hface
  cases hn.symm.trans hn1
  have hr0cls : r0.cls = cL := Option.some.inj ((findClass_of_methodNamed hn).symm.trans hcL)
  obtain ⟨hnameR, hdescR⟩ := name_of_methodNamed hn hrm
  obtain ⟨mk, methM, hnamed, hmethM, -, habM⟩ := Cond.instanceMethod_spec hinst
  obtain ⟨c2, r2, m2, q1, q2, q3, q4, -⟩ := Cond.selects_spec hsel
  cases hcls.symm.trans q1
  cases hfoundL.symm.trans q2
  cases hnamed.symm.trans q3
  have hselP : selectMethod e.platform s.vm cellB.cls r0 = .method mk := by rw [Launch.admits_selectMethod X.admits]; exact q4
  have hpubM : hasFlag methM.accessFlags Acc.public_ = true := Cond.publicMethod_spec hnamed hmethM hpub
  have hway : ((cellB.cls :: s.vm.superclasses cellB.cls).any fun k => (declaredIn s.vm r.name r.desc k).any fun (_, z) => z.isPrivate || z.isStatic) = false := by
    rw [hnameR, hdescR]; exact Cond.unhidden_spec hcls hunh
  obtain ⟨c3, t3, w1, w2, w3⟩ := Cond.castable_spec hcast
  cases hcls.symm.trans w1
  cases hcL.symm.trans w2
  obtain ⟨vm₁, X₁, hstep₁⟩ := X.invokeinterface hexec hown hlink hn hrm hstR (by rw [hr0cls]; exact hkL) hiL hx (a := b) (cell := cellB) (kcell := kB) hcell
    (fun z h => by rw [h] at hobj; cases hobj) hkB (by rw [hr0cls]; exact w3) hselP hmethM hway hpubM habM (g := g) hg (argsL := argsL) (rest := rest) (hlen _ hsigR) hstack hdg
  rcases hK m meth c ⟨T.setVm vm₁, locs, cells, slots⟩ { g with stack := rest } (.invokeinterface index count) mk (Value.ref b :: argsL).toArray X₁ hg hsize hdg hW (X₁.named hnamed) (hpre vm₁ X₁.warmed) with ⟨v, B, X', hpost, hsteps⟩ | ⟨q, B, X', hpost, hsteps⟩
  · exact Or.inl ⟨v, vm₁, B, X₁.warmed, X', hpost, fun target h => hstep₁ _ fun acts => by rw [doInvoke_state]; exact hsteps.trans h⟩
  · exact Or.inr ⟨q, vm₁, B, X₁.warmed, X', hpost, hstep₁ _ fun acts => by rw [doInvoke_state]; exact hsteps⟩
theorem vx_runF {x y : MethodName} {bytes cc : ByteArray} {maxL nL mc ms n index count : Nat} {ret : Option FieldType} {ws : List Cond} {rm : Room} {Pc : Array Value → State → Prop} {Qc : Array Value → State → Outcome → State → Prop} {XC : String → State → State → Prop} {free : Addr → Prop} {Ts : List Cond} {own C : String} {cC : ClassId} {b : Addr} {As rest : List Value} {g : JFrame}
    (hat : ClassAt s C cC) (S : CallFix p m c cc nL s args Ts own) (hM : vx_Met l y ws rm Pc Qc XC mc ms free) (cw : va_CI R s args own C index x y bytes maxL ret ws rm mc ms n) (hp : PreV s H C b Pc As)
    (hg : g.method = m) (hn : As.length = n) (hsize : g.locals.size = nL) (hstack : g.stack = As.reverse ++ .ref b :: rest) (hW : 2 * g.monitorRoom + (rest.map fun v => v.category).sum ≤ 8) (hdg : decode cc g.pc = .ok (.invokeinterface index count, 5)) (hf : cells + mc ≤ R.cells ∧ slots + ms ≤ R.slots) :
    vx_Run5 p l e R s m args below meth c H locs cells slots mc ms g rest (Qc (Value.ref b :: As).toArray) XC free := by
  obtain ⟨hrc, hrs, hfr, hlo, hws, hcw⟩ := cw.back
  have hini := cw.init
  have hK : vx_Back l R p e below s args y 5 8 (PreOf R mc ms Pc) (PostOf Qc mc ms free) (vx_Post XC mc ms free) := vx_back (bytes := bytes) (maxL := maxL) (ret := ret) hM hp.1 hrc hrs hfr hlo hws hcw (fun a' U hW => word_at hW (Or.inl (by first | rfl | simp [Cond.onTables, Cond.keeps, Cond.steady])) hini)
  obtain ⟨hx, hb, hml, ho, -⟩ := S
  obtain ⟨-, ⟨cellB, hcB, hoB, hclB⟩, hPc⟩ := hp
  obtain ⟨hfc, kB, hkB, -⟩ := hat
  cases hfc.symm.trans hclB
  intro T hT X
  rcases vx_callIF X hx (C := C) (bytes := bytes) (maxL := maxL) (ret := ret) ho cw.link cw.decl cw.face cw.sel cw.inst cw.pub cw.unh cw.cast cw.code cw.notMH hK (by rw [hT]; exact hcB) hoB hclB hkB hg (hsize.trans hml.symm) (argsL := As) (rest := rest) (fun sig h => hn.trans (cw.len sig h)) hstack hW (by rw [hb]; exact hdg)
    (fun vm₁ hW₁ => ⟨hf.1, hf.2, hPc (T.setVm vm₁) hT hW₁⟩) with ⟨v, vm₁, ⟨U', l2, c2, s2⟩, hW₁, X', ⟨g', mk, t, L, e1, e2, hq, h1, hL, h2, h3⟩, st⟩ | ⟨q, vm₁, ⟨U', l2, c2, s2⟩, hW₁, X', ⟨g', mk, t, L, E, ce, e1, e2, hq, hce, hcv, hcl, h1, hL, h2, h3⟩, st⟩
  · dsimp only [Pt.U, Pt.locs, Pt.cells, Pt.slots] at X' e1 e2 h1 h2 h3 st
    subst h1; subst h2; subst h3
    exact Or.inl ⟨v, (T.setVm vm₁).calling g' mk (Value.ref b :: As).toArray, t, U', L, hT, X', hL, e1, e2, hq, st⟩
  · dsimp only [Pt.U, Pt.locs, Pt.cells, Pt.slots] at X' e1 e2 h1 h2 h3 st hcl
    subst h1; subst h2; subst h3
    exact Or.inr ⟨q, (T.setVm vm₁).calling g' mk (Value.ref b :: As).toArray, t, U', L, E, ce, hT, X', hL, e1, e2, hq, hce, hcv, vx_cls hW₁ hcl, st⟩
theorem vx_callFv {S SX : Type} {post : S → Prop} {px : SX → Prop} {B : S → State → Prop} {BX : String → SX → State → Prop} {AX : Nat → Prop} (hr : vx_Run5 p l e R s m args below meth c H locs cells slots mc ms (F0 m pc ls st0) rest (va_Qv post B A1 a) (vx_X px BX AX) free) (hS : va_S A0 H0 H locs) (hA : ∀ q, q < H.size → A1 q → A0 q) (hf : ∀ q, free q → A0 q) (hAX : ∀ q, q < H.size → AX q → A0 q)
    (kx : ∀ (E : String) (ce : Cell) (q9 : Addr) (u : SX) (t : State) (H1 : Heap) (locs1 : List Loc), t.heap = H1 → s.vm.Alike t.vm → px u → BX E u t → H.size ≤ H1.size → (∀ q : Nat, q < H.size → ¬ AX q → H1[q]? = H[q]?) → va_S A0 H0 H1 locs1 → H1[q9]? = some ce → ce.vm = .none → s.vm.findClass E = some ce.cls → vx_W p l e R s m args below meth c H1 locs1 (cells + mc) (slots + ms) Q (F0 m pc ls rest) q9)
    (kk : ∀ (u : S) (t : State) (H1 : Heap) (locs1 : List Loc), t.heap = H1 → s.vm.Alike t.vm → post u → B u t → H.size ≤ H1.size → (∀ q : Nat, q < H.size → ¬ A1 q → H1[q]? = H[q]?) → va_S A0 H0 H1 locs1 → W p l e R s m args below meth c H1 locs1 (cells + mc) (slots + ms) Q (F0 m (pc + 5) ls (rest))) : W p l e R s m args below meth c H locs cells slots Q (F0 m pc ls st0) := by
  intro T hT X
  rcases hr T hT X with ⟨v, st₀, t, T', L, h0, X', hL, e1, e2, ⟨⟨u, hv, hp, hb⟩, hF⟩, st⟩ | ⟨q, st₀, t, T', L, E, ce, h0, X', hL, e1, e2, ⟨u, hp, hb, hF⟩, hce, hcv, hcl, st⟩
  · cases hv
    obtain ⟨k1, k2, k3⟩ := vx_keep h0 e1 hS hA hf hL hF
    obtain ⟨t2, a1, b1⟩ := kk u t T'.heap (locs ++ L) e1.symm (by rw [← e2]; exact X'.warmed.alike) hp hb k1 k2 k3 T' rfl X'
    exact ⟨t2, st t2 a1, b1⟩
  · obtain ⟨k1, k2, k3⟩ := vx_keep h0 e1 hS hAX hf hL hF
    obtain ⟨t2, a1, b1⟩ := kx E ce q u t T'.heap (locs ++ L) e1.symm (by rw [← e2]; exact X'.warmed.alike) hp hb k1 k2 k3 (by rw [e1]; exact hce) hcv hcl T' rfl X'
    exact ⟨t2, st.trans a1, b1⟩
theorem vx_callFi {S SX : Type} {post : Int32 → S → Prop} {px : SX → Prop} {B : S → State → Prop} {BX : String → SX → State → Prop} {AX : Nat → Prop} (hr : vx_Run5 p l e R s m args below meth c H locs cells slots mc ms (F0 m pc ls st0) rest (va_Qi post B A1 a) (vx_X px BX AX) free) (hS : va_S A0 H0 H locs) (hA : ∀ q, q < H.size → A1 q → A0 q) (hf : ∀ q, free q → A0 q) (hAX : ∀ q, q < H.size → AX q → A0 q)
    (kx : ∀ (E : String) (ce : Cell) (q9 : Addr) (u : SX) (t : State) (H1 : Heap) (locs1 : List Loc), t.heap = H1 → s.vm.Alike t.vm → px u → BX E u t → H.size ≤ H1.size → (∀ q : Nat, q < H.size → ¬ AX q → H1[q]? = H[q]?) → va_S A0 H0 H1 locs1 → H1[q9]? = some ce → ce.vm = .none → s.vm.findClass E = some ce.cls → vx_W p l e R s m args below meth c H1 locs1 (cells + mc) (slots + ms) Q (F0 m pc ls rest) q9)
    (kk : ∀ (r : Int32) (u : S) (t : State) (H1 : Heap) (locs1 : List Loc), t.heap = H1 → s.vm.Alike t.vm → post r u → B u t → H.size ≤ H1.size → (∀ q : Nat, q < H.size → ¬ A1 q → H1[q]? = H[q]?) → va_S A0 H0 H1 locs1 → W p l e R s m args below meth c H1 locs1 (cells + mc) (slots + ms) Q (F0 m (pc + 5) ls (.int r :: rest))) : W p l e R s m args below meth c H locs cells slots Q (F0 m pc ls st0) := by
  intro T hT X
  rcases hr T hT X with ⟨v, st₀, t, T', L, h0, X', hL, e1, e2, ⟨⟨r, u, hv, hp, hb⟩, hF⟩, st⟩ | ⟨q, st₀, t, T', L, E, ce, h0, X', hL, e1, e2, ⟨u, hp, hb, hF⟩, hce, hcv, hcl, st⟩
  · cases hv
    obtain ⟨k1, k2, k3⟩ := vx_keep h0 e1 hS hA hf hL hF
    obtain ⟨t2, a1, b1⟩ := kk r u t T'.heap (locs ++ L) e1.symm (by rw [← e2]; exact X'.warmed.alike) hp hb k1 k2 k3 T' rfl X'
    exact ⟨t2, st t2 a1, b1⟩
  · obtain ⟨k1, k2, k3⟩ := vx_keep h0 e1 hS hAX hf hL hF
    obtain ⟨t2, a1, b1⟩ := kx E ce q u t T'.heap (locs ++ L) e1.symm (by rw [← e2]; exact X'.warmed.alike) hp hb k1 k2 k3 (by rw [e1]; exact hce) hcv hcl T' rfl X'
    exact ⟨t2, st.trans a1, b1⟩
theorem vx_callFl {S SX : Type} {post : Int64 → S → Prop} {px : SX → Prop} {B : S → State → Prop} {BX : String → SX → State → Prop} {AX : Nat → Prop} (hr : vx_Run5 p l e R s m args below meth c H locs cells slots mc ms (F0 m pc ls st0) rest (va_Ql post B A1 a) (vx_X px BX AX) free) (hS : va_S A0 H0 H locs) (hA : ∀ q, q < H.size → A1 q → A0 q) (hf : ∀ q, free q → A0 q) (hAX : ∀ q, q < H.size → AX q → A0 q)
    (kx : ∀ (E : String) (ce : Cell) (q9 : Addr) (u : SX) (t : State) (H1 : Heap) (locs1 : List Loc), t.heap = H1 → s.vm.Alike t.vm → px u → BX E u t → H.size ≤ H1.size → (∀ q : Nat, q < H.size → ¬ AX q → H1[q]? = H[q]?) → va_S A0 H0 H1 locs1 → H1[q9]? = some ce → ce.vm = .none → s.vm.findClass E = some ce.cls → vx_W p l e R s m args below meth c H1 locs1 (cells + mc) (slots + ms) Q (F0 m pc ls rest) q9)
    (kk : ∀ (r : Int64) (u : S) (t : State) (H1 : Heap) (locs1 : List Loc), t.heap = H1 → s.vm.Alike t.vm → post r u → B u t → H.size ≤ H1.size → (∀ q : Nat, q < H.size → ¬ A1 q → H1[q]? = H[q]?) → va_S A0 H0 H1 locs1 → W p l e R s m args below meth c H1 locs1 (cells + mc) (slots + ms) Q (F0 m (pc + 5) ls (.long r :: rest))) : W p l e R s m args below meth c H locs cells slots Q (F0 m pc ls st0) := by
  intro T hT X
  rcases hr T hT X with ⟨v, st₀, t, T', L, h0, X', hL, e1, e2, ⟨⟨r, u, hv, hp, hb⟩, hF⟩, st⟩ | ⟨q, st₀, t, T', L, E, ce, h0, X', hL, e1, e2, ⟨u, hp, hb, hF⟩, hce, hcv, hcl, st⟩
  · cases hv
    obtain ⟨k1, k2, k3⟩ := vx_keep h0 e1 hS hA hf hL hF
    obtain ⟨t2, a1, b1⟩ := kk r u t T'.heap (locs ++ L) e1.symm (by rw [← e2]; exact X'.warmed.alike) hp hb k1 k2 k3 T' rfl X'
    exact ⟨t2, st t2 a1, b1⟩
  · obtain ⟨k1, k2, k3⟩ := vx_keep h0 e1 hS hAX hf hL hF
    obtain ⟨t2, a1, b1⟩ := kx E ce q u t T'.heap (locs ++ L) e1.symm (by rw [← e2]; exact X'.warmed.alike) hp hb k1 k2 k3 (by rw [e1]; exact hce) hcv hcl T' rfl X'
    exact ⟨t2, st.trans a1, b1⟩
theorem vx_callFf {S SX : Type} {post : UInt32 → S → Prop} {px : SX → Prop} {B : S → State → Prop} {BX : String → SX → State → Prop} {AX : Nat → Prop} (hr : vx_Run5 p l e R s m args below meth c H locs cells slots mc ms (F0 m pc ls st0) rest (va_Qf post B A1 a) (vx_X px BX AX) free) (hS : va_S A0 H0 H locs) (hA : ∀ q, q < H.size → A1 q → A0 q) (hf : ∀ q, free q → A0 q) (hAX : ∀ q, q < H.size → AX q → A0 q)
    (kx : ∀ (E : String) (ce : Cell) (q9 : Addr) (u : SX) (t : State) (H1 : Heap) (locs1 : List Loc), t.heap = H1 → s.vm.Alike t.vm → px u → BX E u t → H.size ≤ H1.size → (∀ q : Nat, q < H.size → ¬ AX q → H1[q]? = H[q]?) → va_S A0 H0 H1 locs1 → H1[q9]? = some ce → ce.vm = .none → s.vm.findClass E = some ce.cls → vx_W p l e R s m args below meth c H1 locs1 (cells + mc) (slots + ms) Q (F0 m pc ls rest) q9)
    (kk : ∀ (r : UInt32) (u : S) (t : State) (H1 : Heap) (locs1 : List Loc), t.heap = H1 → s.vm.Alike t.vm → post r u → B u t → H.size ≤ H1.size → (∀ q : Nat, q < H.size → ¬ A1 q → H1[q]? = H[q]?) → va_S A0 H0 H1 locs1 → W p l e R s m args below meth c H1 locs1 (cells + mc) (slots + ms) Q (F0 m (pc + 5) ls (.float r :: rest))) : W p l e R s m args below meth c H locs cells slots Q (F0 m pc ls st0) := by
  intro T hT X
  rcases hr T hT X with ⟨v, st₀, t, T', L, h0, X', hL, e1, e2, ⟨⟨r, u, hv, hp, hb⟩, hF⟩, st⟩ | ⟨q, st₀, t, T', L, E, ce, h0, X', hL, e1, e2, ⟨u, hp, hb, hF⟩, hce, hcv, hcl, st⟩
  · cases hv
    obtain ⟨k1, k2, k3⟩ := vx_keep h0 e1 hS hA hf hL hF
    obtain ⟨t2, a1, b1⟩ := kk r u t T'.heap (locs ++ L) e1.symm (by rw [← e2]; exact X'.warmed.alike) hp hb k1 k2 k3 T' rfl X'
    exact ⟨t2, st t2 a1, b1⟩
  · obtain ⟨k1, k2, k3⟩ := vx_keep h0 e1 hS hAX hf hL hF
    obtain ⟨t2, a1, b1⟩ := kx E ce q u t T'.heap (locs ++ L) e1.symm (by rw [← e2]; exact X'.warmed.alike) hp hb k1 k2 k3 (by rw [e1]; exact hce) hcv hcl T' rfl X'
    exact ⟨t2, st.trans a1, b1⟩
theorem vx_callFd {S SX : Type} {post : UInt64 → S → Prop} {px : SX → Prop} {B : S → State → Prop} {BX : String → SX → State → Prop} {AX : Nat → Prop} (hr : vx_Run5 p l e R s m args below meth c H locs cells slots mc ms (F0 m pc ls st0) rest (va_Qd post B A1 a) (vx_X px BX AX) free) (hS : va_S A0 H0 H locs) (hA : ∀ q, q < H.size → A1 q → A0 q) (hf : ∀ q, free q → A0 q) (hAX : ∀ q, q < H.size → AX q → A0 q)
    (kx : ∀ (E : String) (ce : Cell) (q9 : Addr) (u : SX) (t : State) (H1 : Heap) (locs1 : List Loc), t.heap = H1 → s.vm.Alike t.vm → px u → BX E u t → H.size ≤ H1.size → (∀ q : Nat, q < H.size → ¬ AX q → H1[q]? = H[q]?) → va_S A0 H0 H1 locs1 → H1[q9]? = some ce → ce.vm = .none → s.vm.findClass E = some ce.cls → vx_W p l e R s m args below meth c H1 locs1 (cells + mc) (slots + ms) Q (F0 m pc ls rest) q9)
    (kk : ∀ (r : UInt64) (u : S) (t : State) (H1 : Heap) (locs1 : List Loc), t.heap = H1 → s.vm.Alike t.vm → post r u → B u t → H.size ≤ H1.size → (∀ q : Nat, q < H.size → ¬ A1 q → H1[q]? = H[q]?) → va_S A0 H0 H1 locs1 → W p l e R s m args below meth c H1 locs1 (cells + mc) (slots + ms) Q (F0 m (pc + 5) ls (.double r :: rest))) : W p l e R s m args below meth c H locs cells slots Q (F0 m pc ls st0) := by
  intro T hT X
  rcases hr T hT X with ⟨v, st₀, t, T', L, h0, X', hL, e1, e2, ⟨⟨r, u, hv, hp, hb⟩, hF⟩, st⟩ | ⟨q, st₀, t, T', L, E, ce, h0, X', hL, e1, e2, ⟨u, hp, hb, hF⟩, hce, hcv, hcl, st⟩
  · cases hv
    obtain ⟨k1, k2, k3⟩ := vx_keep h0 e1 hS hA hf hL hF
    obtain ⟨t2, a1, b1⟩ := kk r u t T'.heap (locs ++ L) e1.symm (by rw [← e2]; exact X'.warmed.alike) hp hb k1 k2 k3 T' rfl X'
    exact ⟨t2, st t2 a1, b1⟩
  · obtain ⟨k1, k2, k3⟩ := vx_keep h0 e1 hS hAX hf hL hF
    obtain ⟨t2, a1, b1⟩ := kx E ce q u t T'.heap (locs ++ L) e1.symm (by rw [← e2]; exact X'.warmed.alike) hp hb k1 k2 k3 (by rw [e1]; exact hce) hcv hcl T' rfl X'
    exact ⟨t2, st.trans a1, b1⟩
end
/-! ===== END ===== -/
/-! ===== BEGIN by an interface, a method with a table of its own that may throw (follows va_callIFW, va_runFW) ===== -/
section
variable {p : Program} {l : Launch} {e : Env} {R : Room} {s : State} {m : MethodId} {args : Array Value} {below : List Frame} {meth : Method} {c : Code} {H : Heap} {locs : List Loc} {cells slots : Nat}
theorem vx_callIFW {T : State} (X : Stand p l e R s m args below meth c T locs cells slots) (hexec : p.tables.exec = Jvm.exec) {own C : String} {index count : Nat} {x y : MethodName} {bytes : ByteArray} {maxL : Nat} {ret : Option FieldType} {hh : List (Nat × Nat × Nat × Nat)}
    (hown : s.vm.findClass own = some m.cls) (hlink : (Cond.methodLink own index x).before args s = true) (hdecl : (Cond.declares x).before args s = true) (hface : (Cond.interfaceMethod x.cls x.cls x.name x.desc).before args s = true)
    (hsel : (Cond.selects C x y).before args s = true) (hinst : (Cond.instanceMethod y).before args s = true) (hpub : (Cond.publicMethod y).before args s = true) (hunh : (Cond.unhidden C x.name x.desc).before args s = true)
    (hcast : (Cond.castable C x.cls).before args s = true) (hcode : (Cond.codeWith y bytes maxL ret hh).before args s = true) (hx : x.cls ≠ "java/lang/invoke/MethodHandle" ∧ x.cls ≠ "java/lang/invoke/VarHandle")
    {W : Nat} {Pre : Pt → Array Value → Prop} {Post : Pt → Array Value → Option Value → Pt → Prop} {PostX : Pt → Array Value → Addr → Pt → Prop} (hK : vx_Back l R p e below s args y 5 W Pre Post PostX)
    {b : Addr} {cellB : Cell} {kB : Class} (hcell : T.heap[b]? = some cellB) (hobj : cellB.vm.isStatics = false) (hcls : s.vm.findClass C = some cellB.cls) (hkB : s.vm.classes[cellB.cls]? = some kB)
    {g : JFrame} (hg : g.method = m) (hsize : g.locals.size = c.maxLocals) {argsL rest : List Value} (hlen : ∀ sig, parseMethodDescriptor x.desc = some sig → argsL.length = sig.parameters.length)
    (hstack : g.stack = argsL.reverse ++ .ref b :: rest) (hW : 2 * g.monitorRoom + (rest.map fun v => v.category).sum ≤ W) (hdg : decode c.code g.pc = .ok (.invokeinterface index count, 5))
    (hpre : ∀ vm₁, s.WarmedH vm₁ → Pre ⟨T.setVm vm₁, locs, cells, slots⟩ (Value.ref b :: argsL).toArray) :
    (∃ (v : Option Value) (vm₁ : Vm) (B : Pt), s.WarmedH vm₁ ∧ Stand p l e R s m args below meth c B.U B.locs B.cells B.slots ∧ Post ⟨T.setVm vm₁, locs, cells, slots⟩ (Value.ref b :: argsL).toArray v B ∧
      ∀ target, Steps p.tables e below (B.U.setTop { g with pc := g.pc + 5, stack := v.toList ++ rest }) target → Steps p.tables e below (T.setTop g) target) ∨
    (∃ (q : Addr) (vm₁ : Vm) (B : Pt), s.WarmedH vm₁ ∧ Stand p l e R s m args below meth c B.U B.locs B.cells B.slots ∧ PostX ⟨T.setVm vm₁, locs, cells, slots⟩ (Value.ref b :: argsL).toArray q B ∧
      Steps p.tables e below (T.setTop g) ((B.U.setTop { g with stack := rest }).pushFrame (.throwing q))) := by
  obtain ⟨r0, r, hn, hrm, hstR, hsigR⟩ := Cond.declares_spec hdecl
  obtain ⟨cL, kL, r1, hcL, hkL, hiL, hfoundL, hn1⟩ := Cond.interfaceMethod_spec hface
  cases hn.symm.trans hn1
  have hr0cls : r0.cls = cL := Option.some.inj ((findClass_of_methodNamed hn).symm.trans hcL)
  obtain ⟨hnameR, hdescR⟩ := name_of_methodNamed hn hrm
  obtain ⟨mk, methM, hnamed, hmethM, -, habM⟩ := Cond.instanceMethod_spec hinst
  obtain ⟨c2, r2, m2, q1, q2, q3, q4, -⟩ := Cond.selects_spec hsel
  cases hcls.symm.trans q1
  cases hfoundL.symm.trans q2
  cases hnamed.symm.trans q3
  have hselP : selectMethod e.platform s.vm cellB.cls r0 = .method mk := by rw [Launch.admits_selectMethod X.admits]; exact q4
  have hpubM : hasFlag methM.accessFlags Acc.public_ = true := Cond.publicMethod_spec hnamed hmethM hpub
  have hway : ((cellB.cls :: s.vm.superclasses cellB.cls).any fun k => (declaredIn s.vm r.name r.desc k).any fun (_, z) => z.isPrivate || z.isStatic) = false := by
    rw [hnameR, hdescR]; exact Cond.unhidden_spec hcls hunh
  obtain ⟨c3, t3, w1, w2, w3⟩ := Cond.castable_spec hcast
  cases hcls.symm.trans w1
  cases hcL.symm.trans w2
  obtain ⟨vm₁, X₁, hstep₁⟩ := X.invokeinterface hexec hown hlink hn hrm hstR (by rw [hr0cls]; exact hkL) hiL hx (a := b) (cell := cellB) (kcell := kB) hcell
    (fun z h => by rw [h] at hobj; cases hobj) hkB (by rw [hr0cls]; exact w3) hselP hmethM hway hpubM habM (g := g) hg (argsL := argsL) (rest := rest) (hlen _ hsigR) hstack hdg
  rcases hK m meth c ⟨T.setVm vm₁, locs, cells, slots⟩ { g with stack := rest } (.invokeinterface index count) mk (Value.ref b :: argsL).toArray X₁ hg hsize hdg hW (X₁.named hnamed) (hpre vm₁ X₁.warmed) with ⟨v, B, X', hpost, hsteps⟩ | ⟨q, B, X', hpost, hsteps⟩
  · exact Or.inl ⟨v, vm₁, B, X₁.warmed, X', hpost, fun target h => hstep₁ _ fun acts => by rw [doInvoke_state]; exact hsteps.trans h⟩
  · exact Or.inr ⟨q, vm₁, B, X₁.warmed, X', hpost, hstep₁ _ fun acts => by rw [doInvoke_state]; exact hsteps⟩
theorem vx_runFW {x y : MethodName} {bytes cc : ByteArray} {maxL nL mc ms n index count : Nat} {ret : Option FieldType} {hh : List (Nat × Nat × Nat × Nat)} {ws : List Cond} {rm : Room} {Pc : Array Value → State → Prop} {Qc : Array Value → State → Outcome → State → Prop} {XC : String → State → State → Prop} {free : Addr → Prop} {Ts : List Cond} {own C : String} {cC : ClassId} {b : Addr} {As rest : List Value} {g : JFrame}
    (hat : ClassAt s C cC) (S : CallFix p m c cc nL s args Ts own) (hM : vx_Met l y ws rm Pc Qc XC mc ms free) (cw : va_CIW R s args own C index x y bytes maxL ret hh ws rm mc ms n) (hp : PreV s H C b Pc As)
    (hg : g.method = m) (hn : As.length = n) (hsize : g.locals.size = nL) (hstack : g.stack = As.reverse ++ .ref b :: rest) (hW : 2 * g.monitorRoom + (rest.map fun v => v.category).sum ≤ 8) (hdg : decode cc g.pc = .ok (.invokeinterface index count, 5)) (hf : cells + mc ≤ R.cells ∧ slots + ms ≤ R.slots) :
    vx_Run5 p l e R s m args below meth c H locs cells slots mc ms g rest (Qc (Value.ref b :: As).toArray) XC free := by
  obtain ⟨hrc, hrs, hfr, hlo, hws, hcw⟩ := cw.back
  have hini := cw.init
  have hK : vx_Back l R p e below s args y 5 8 (PreOf R mc ms Pc) (PostOf Qc mc ms free) (vx_Post XC mc ms free) := vx_backW (hh := hh) (bytes := bytes) (maxL := maxL) (ret := ret) hM hp.1 hrc hrs hfr hlo hws hcw (fun a' U hW => word_at hW (Or.inl (by first | rfl | simp [Cond.onTables, Cond.keeps, Cond.steady])) hini)
  obtain ⟨hx, hb, hml, ho, -⟩ := S
  obtain ⟨-, ⟨cellB, hcB, hoB, hclB⟩, hPc⟩ := hp
  obtain ⟨hfc, kB, hkB, -⟩ := hat
  cases hfc.symm.trans hclB
  intro T hT X
  rcases vx_callIFW X hx (C := C) (hh := hh) (bytes := bytes) (maxL := maxL) (ret := ret) ho cw.link cw.decl cw.face cw.sel cw.inst cw.pub cw.unh cw.cast cw.code cw.notMH hK (by rw [hT]; exact hcB) hoB hclB hkB hg (hsize.trans hml.symm) (argsL := As) (rest := rest) (fun sig h => hn.trans (cw.len sig h)) hstack hW (by rw [hb]; exact hdg)
    (fun vm₁ hW₁ => ⟨hf.1, hf.2, hPc (T.setVm vm₁) hT hW₁⟩) with ⟨v, vm₁, ⟨U', l2, c2, s2⟩, hW₁, X', ⟨g', mk, t, L, e1, e2, hq, h1, hL, h2, h3⟩, st⟩ | ⟨q, vm₁, ⟨U', l2, c2, s2⟩, hW₁, X', ⟨g', mk, t, L, E, ce, e1, e2, hq, hce, hcv, hcl, h1, hL, h2, h3⟩, st⟩
  · dsimp only [Pt.U, Pt.locs, Pt.cells, Pt.slots] at X' e1 e2 h1 h2 h3 st
    subst h1; subst h2; subst h3
    exact Or.inl ⟨v, (T.setVm vm₁).calling g' mk (Value.ref b :: As).toArray, t, U', L, hT, X', hL, e1, e2, hq, st⟩
  · dsimp only [Pt.U, Pt.locs, Pt.cells, Pt.slots] at X' e1 e2 h1 h2 h3 st hcl
    subst h1; subst h2; subst h3
    exact Or.inr ⟨q, (T.setVm vm₁).calling g' mk (Value.ref b :: As).toArray, t, U', L, E, ce, hT, X', hL, e1, e2, hq, hce, hcv, vx_cls hW₁ hcl, st⟩
end
/-! ===== END ===== -/
/-! ===== BEGIN .. of methods that hand back an object of the pool ===== -/
section
variable {p : Program} {l : Launch} {e : Env} {R : Room} {s : State} {m : MethodId} {args : Array Value} {below : List Frame} {meth : Method} {c : Code} {H : Heap} {locs : List Loc} {cells slots : Nat} {Q : State → Prop}
variable {mc ms : Nat} {free : Addr → Prop} {A0 A1 : Nat → Prop} {H0 : Heap} {a : Array Value} {pc : Nat} {ls : Array Slot} {st0 rest : List Value}
theorem vx_callq {S SX : Type} {post : Option Nat → S → Prop} {px : SX → Prop} {B : S → State → Prop} {BX : String → SX → State → Prop} {AX : Nat → Prop} (hr : vx_Run p l e R s m args below meth c H locs cells slots mc ms (F0 m pc ls st0) rest (va_Qq post B A1 a) (vx_X px BX AX) free) (hS : va_S A0 H0 H locs) (hA : ∀ q, q < H.size → A1 q → A0 q) (hf : ∀ q, free q → A0 q) (hAX : ∀ q, q < H.size → AX q → A0 q)
    (kx : ∀ (E : String) (ce : Cell) (q9 : Addr) (u : SX) (t : State) (H1 : Heap) (locs1 : List Loc), t.heap = H1 → s.vm.Alike t.vm → px u → BX E u t → H.size ≤ H1.size → (∀ q : Nat, q < H.size → ¬ AX q → H1[q]? = H[q]?) → va_S A0 H0 H1 locs1 → H1[q9]? = some ce → ce.vm = .none → s.vm.findClass E = some ce.cls → vx_W p l e R s m args below meth c H1 locs1 (cells + mc) (slots + ms) Q (F0 m pc ls rest) q9)
    (kk : ∀ (r : Option Nat) (u : S) (t : State) (H1 : Heap) (locs1 : List Loc), t.heap = H1 → s.vm.Alike t.vm → post r u → B u t → H.size ≤ H1.size → (∀ q : Nat, q < H.size → ¬ A1 q → H1[q]? = H[q]?) → va_S A0 H0 H1 locs1 → W p l e R s m args below meth c H1 locs1 (cells + mc) (slots + ms) Q (F0 m (pc + 3) ls (va_rf r :: rest))) : W p l e R s m args below meth c H locs cells slots Q (F0 m pc ls st0) := by
  intro T hT X
  rcases hr T hT X with ⟨v, st₀, t, T', L, h0, X', hL, e1, e2, ⟨⟨r, u, hv, hp, hb⟩, hF⟩, st⟩ | ⟨q, st₀, t, T', L, E, ce, h0, X', hL, e1, e2, ⟨u, hp, hb, hF⟩, hce, hcv, hcl, st⟩
  · cases hv
    obtain ⟨k1, k2, k3⟩ := vx_keep h0 e1 hS hA hf hL hF
    obtain ⟨t2, a1, b1⟩ := kk r u t T'.heap (locs ++ L) e1.symm (by rw [← e2]; exact X'.warmed.alike) hp hb k1 k2 k3 T' rfl X'
    exact ⟨t2, st t2 a1, b1⟩
  · obtain ⟨k1, k2, k3⟩ := vx_keep h0 e1 hS hAX hf hL hF
    obtain ⟨t2, a1, b1⟩ := kx E ce q u t T'.heap (locs ++ L) e1.symm (by rw [← e2]; exact X'.warmed.alike) hp hb k1 k2 k3 (by rw [e1]; exact hce) hcv hcl T' rfl X'
    exact ⟨t2, st.trans a1, b1⟩
end
/-! ===== END ===== -/
/-! ===== BEGIN .. a constant ===== -/
section
variable {p : Program} {l : Launch} {e : Env} {R : Room} {s : State} {m : MethodId} {args : Array Value} {below : List Frame} {meth : Method} {c : Code} {H : Heap} {locs : List Loc} {cells slots : Nat} {Q : State → Prop}
variable {mc ms : Nat} {free : Addr → Prop} {A0 A1 : Nat → Prop} {H0 : Heap} {a : Array Value} {pc : Nat} {ls : Array Slot} {st0 rest : List Value}
theorem vx_calle {ad : Nat → Nat} {S SX : Type} {post : Option Nat → S → Prop} {px : SX → Prop} {B : S → State → Prop} {BX : String → SX → State → Prop} {AX : Nat → Prop} (hr : vx_Run p l e R s m args below meth c H locs cells slots mc ms (F0 m pc ls st0) rest (va_Qe ad post B A1 a) (vx_X px BX AX) free) (hS : va_S A0 H0 H locs) (hA : ∀ q, q < H.size → A1 q → A0 q) (hf : ∀ q, free q → A0 q) (hAX : ∀ q, q < H.size → AX q → A0 q)
    (kx : ∀ (E : String) (ce : Cell) (q9 : Addr) (u : SX) (t : State) (H1 : Heap) (locs1 : List Loc), t.heap = H1 → s.vm.Alike t.vm → px u → BX E u t → H.size ≤ H1.size → (∀ q : Nat, q < H.size → ¬ AX q → H1[q]? = H[q]?) → va_S A0 H0 H1 locs1 → H1[q9]? = some ce → ce.vm = .none → s.vm.findClass E = some ce.cls → vx_W p l e R s m args below meth c H1 locs1 (cells + mc) (slots + ms) Q (F0 m pc ls rest) q9)
    (kk : ∀ (r : Option Nat) (u : S) (t : State) (H1 : Heap) (locs1 : List Loc), t.heap = H1 → s.vm.Alike t.vm → post r u → B u t → H.size ≤ H1.size → (∀ q : Nat, q < H.size → ¬ A1 q → H1[q]? = H[q]?) → va_S A0 H0 H1 locs1 → W p l e R s m args below meth c H1 locs1 (cells + mc) (slots + ms) Q (F0 m (pc + 3) ls (va_re ad r :: rest))) : W p l e R s m args below meth c H locs cells slots Q (F0 m pc ls st0) := by
  intro T hT X
  rcases hr T hT X with ⟨v, st₀, t, T', L, h0, X', hL, e1, e2, ⟨⟨r, u, hv, hp, hb⟩, hF⟩, st⟩ | ⟨q, st₀, t, T', L, E, ce, h0, X', hL, e1, e2, ⟨u, hp, hb, hF⟩, hce, hcv, hcl, st⟩
  · cases hv
    obtain ⟨k1, k2, k3⟩ := vx_keep h0 e1 hS hA hf hL hF
    obtain ⟨t2, a1, b1⟩ := kk r u t T'.heap (locs ++ L) e1.symm (by rw [← e2]; exact X'.warmed.alike) hp hb k1 k2 k3 T' rfl X'
    exact ⟨t2, st t2 a1, b1⟩
  · obtain ⟨k1, k2, k3⟩ := vx_keep h0 e1 hS hAX hf hL hF
    obtain ⟨t2, a1, b1⟩ := kx E ce q u t T'.heap (locs ++ L) e1.symm (by rw [← e2]; exact X'.warmed.alike) hp hb k1 k2 k3 (by rw [e1]; exact hce) hcv hcl T' rfl X'
    exact ⟨t2, st.trans a1, b1⟩
end
/-! ===== END ===== -/
/-! ===== BEGIN .. by an interface, an object ===== -/
section
variable {p : Program} {l : Launch} {e : Env} {R : Room} {s : State} {m : MethodId} {args : Array Value} {below : List Frame} {meth : Method} {c : Code} {H : Heap} {locs : List Loc} {cells slots : Nat} {Q : State → Prop}
variable {mc ms : Nat} {free : Addr → Prop} {A0 A1 : Nat → Prop} {H0 : Heap} {a : Array Value} {pc : Nat} {ls : Array Slot} {st0 rest : List Value}
theorem vx_callFq {S SX : Type} {post : Option Nat → S → Prop} {px : SX → Prop} {B : S → State → Prop} {BX : String → SX → State → Prop} {AX : Nat → Prop} (hr : vx_Run5 p l e R s m args below meth c H locs cells slots mc ms (F0 m pc ls st0) rest (va_Qq post B A1 a) (vx_X px BX AX) free) (hS : va_S A0 H0 H locs) (hA : ∀ q, q < H.size → A1 q → A0 q) (hf : ∀ q, free q → A0 q) (hAX : ∀ q, q < H.size → AX q → A0 q)
    (kx : ∀ (E : String) (ce : Cell) (q9 : Addr) (u : SX) (t : State) (H1 : Heap) (locs1 : List Loc), t.heap = H1 → s.vm.Alike t.vm → px u → BX E u t → H.size ≤ H1.size → (∀ q : Nat, q < H.size → ¬ AX q → H1[q]? = H[q]?) → va_S A0 H0 H1 locs1 → H1[q9]? = some ce → ce.vm = .none → s.vm.findClass E = some ce.cls → vx_W p l e R s m args below meth c H1 locs1 (cells + mc) (slots + ms) Q (F0 m pc ls rest) q9)
    (kk : ∀ (r : Option Nat) (u : S) (t : State) (H1 : Heap) (locs1 : List Loc), t.heap = H1 → s.vm.Alike t.vm → post r u → B u t → H.size ≤ H1.size → (∀ q : Nat, q < H.size → ¬ A1 q → H1[q]? = H[q]?) → va_S A0 H0 H1 locs1 → W p l e R s m args below meth c H1 locs1 (cells + mc) (slots + ms) Q (F0 m (pc + 5) ls (va_rf r :: rest))) : W p l e R s m args below meth c H locs cells slots Q (F0 m pc ls st0) := by
  intro T hT X
  rcases hr T hT X with ⟨v, st₀, t, T', L, h0, X', hL, e1, e2, ⟨⟨r, u, hv, hp, hb⟩, hF⟩, st⟩ | ⟨q, st₀, t, T', L, E, ce, h0, X', hL, e1, e2, ⟨u, hp, hb, hF⟩, hce, hcv, hcl, st⟩
  · cases hv
    obtain ⟨k1, k2, k3⟩ := vx_keep h0 e1 hS hA hf hL hF
    obtain ⟨t2, a1, b1⟩ := kk r u t T'.heap (locs ++ L) e1.symm (by rw [← e2]; exact X'.warmed.alike) hp hb k1 k2 k3 T' rfl X'
    exact ⟨t2, st t2 a1, b1⟩
  · obtain ⟨k1, k2, k3⟩ := vx_keep h0 e1 hS hAX hf hL hF
    obtain ⟨t2, a1, b1⟩ := kx E ce q u t T'.heap (locs ++ L) e1.symm (by rw [← e2]; exact X'.warmed.alike) hp hb k1 k2 k3 (by rw [e1]; exact hce) hcv hcl T' rfl X'
    exact ⟨t2, st.trans a1, b1⟩
end
/-! ===== END ===== -/
/-! ===== BEGIN .. by an interface, a constant ===== -/
section
variable {p : Program} {l : Launch} {e : Env} {R : Room} {s : State} {m : MethodId} {args : Array Value} {below : List Frame} {meth : Method} {c : Code} {H : Heap} {locs : List Loc} {cells slots : Nat} {Q : State → Prop}
variable {mc ms : Nat} {free : Addr → Prop} {A0 A1 : Nat → Prop} {H0 : Heap} {a : Array Value} {pc : Nat} {ls : Array Slot} {st0 rest : List Value}
theorem vx_callFe {ad : Nat → Nat} {S SX : Type} {post : Option Nat → S → Prop} {px : SX → Prop} {B : S → State → Prop} {BX : String → SX → State → Prop} {AX : Nat → Prop} (hr : vx_Run5 p l e R s m args below meth c H locs cells slots mc ms (F0 m pc ls st0) rest (va_Qe ad post B A1 a) (vx_X px BX AX) free) (hS : va_S A0 H0 H locs) (hA : ∀ q, q < H.size → A1 q → A0 q) (hf : ∀ q, free q → A0 q) (hAX : ∀ q, q < H.size → AX q → A0 q)
    (kx : ∀ (E : String) (ce : Cell) (q9 : Addr) (u : SX) (t : State) (H1 : Heap) (locs1 : List Loc), t.heap = H1 → s.vm.Alike t.vm → px u → BX E u t → H.size ≤ H1.size → (∀ q : Nat, q < H.size → ¬ AX q → H1[q]? = H[q]?) → va_S A0 H0 H1 locs1 → H1[q9]? = some ce → ce.vm = .none → s.vm.findClass E = some ce.cls → vx_W p l e R s m args below meth c H1 locs1 (cells + mc) (slots + ms) Q (F0 m pc ls rest) q9)
    (kk : ∀ (r : Option Nat) (u : S) (t : State) (H1 : Heap) (locs1 : List Loc), t.heap = H1 → s.vm.Alike t.vm → post r u → B u t → H.size ≤ H1.size → (∀ q : Nat, q < H.size → ¬ A1 q → H1[q]? = H[q]?) → va_S A0 H0 H1 locs1 → W p l e R s m args below meth c H1 locs1 (cells + mc) (slots + ms) Q (F0 m (pc + 5) ls (va_re ad r :: rest))) : W p l e R s m args below meth c H locs cells slots Q (F0 m pc ls st0) := by
  intro T hT X
  rcases hr T hT X with ⟨v, st₀, t, T', L, h0, X', hL, e1, e2, ⟨⟨r, u, hv, hp, hb⟩, hF⟩, st⟩ | ⟨q, st₀, t, T', L, E, ce, h0, X', hL, e1, e2, ⟨u, hp, hb, hF⟩, hce, hcv, hcl, st⟩
  · cases hv
    obtain ⟨k1, k2, k3⟩ := vx_keep h0 e1 hS hA hf hL hF
    obtain ⟨t2, a1, b1⟩ := kk r u t T'.heap (locs ++ L) e1.symm (by rw [← e2]; exact X'.warmed.alike) hp hb k1 k2 k3 T' rfl X'
    exact ⟨t2, st t2 a1, b1⟩
  · obtain ⟨k1, k2, k3⟩ := vx_keep h0 e1 hS hAX hf hL hF
    obtain ⟨t2, a1, b1⟩ := kx E ce q u t T'.heap (locs ++ L) e1.symm (by rw [← e2]; exact X'.warmed.alike) hp hb k1 k2 k3 (by rw [e1]; exact hce) hcv hcl T' rfl X'
    exact ⟨t2, st.trans a1, b1⟩
end
/-! ===== END ===== -/
/-! ===== BEGIN what the machine throws by itself: null at a field, at athrow ===== -/
section VXM2
variable {p : Program} {l : Launch} {e : Env} {R : Room} {s : State} {m : MethodId} {args : Array Value} {below : List Frame} {meth : Method} {c : Code} {H : Heap} {locs : List Loc} {cells slots : Nat}
variable {Q : State → Prop} {cc : ByteArray} {pc : Nat} {ls : Array Slot} {rest : List Value}
theorem vx_getfN {D cl tys} {own ref C : String} {T : u_T} {N ci index : Nat} {Ts : List Cond} (hexec : p.tables.exec = Jvm.exec) (hb : c.code = cc) (hts : ∀ w ∈ Ts, w.before args s = true) (hin : ∀ w ∈ u_ws C T N, w ∈ Ts) (hown : s.vm.findClass own = some m.cls) (hK : va_K D cl tys s) (hc : cl[ci]? = some (C, T, N)) (k : Nat) (hk : k < N) (hlink : (Cond.fieldLink own index ref (T k).2.1 (T k).2.2.1).before args s = true) (hsame : ∀ x, s.fieldFound? (T k).1 (T k).2.1 (T k).2.2.1 = some x → s.fieldFound? ref (T k).2.1 (T k).2.2.1 = some x) (hdg : decode cc pc = .ok (.getfield index, 3)) (kk : vx_NoteN p l e R s m args below meth c H locs cells slots Q (F0 m pc ls rest)) : W p l e R s m args below meth c H locs cells slots Q (F0 m pc ls (.null :: rest)) := by
  obtain ⟨hS, hfc, kC, hkC, -⟩ := hK.1 ci _ hc
  obtain ⟨cf, kf, fi, f, hi, -⟩ := hS k hk
  intro U hU X
  obtain ⟨vm', X1, st1⟩ := X.getfieldNull hexec hown hlink (hsame _ hi) (u_facts hfc hkC (u_lays hts hin hk) hi).1 (g := F0 m pc ls (.null :: rest)) rfl (rest := rest) rfl (by rw [hb]; exact hdg)
  obtain ⟨t, st, q⟩ := kk (U.setVm vm') hU X1
  exact ⟨t, st1 t st, q⟩
theorem vx_getfNN {D cl tys} {own ref C host : String} {T : u_T} {N ci index : Nat} {Ts : List Cond} (hexec : p.tables.exec = Jvm.exec) (hb : c.code = cc) (hts : ∀ w ∈ Ts, w.before args s = true) (hin : ∀ w ∈ u_ws C T N, w ∈ Ts) (hown : s.vm.findClass own = some m.cls) (hK : va_K D cl tys s) (hc : cl[ci]? = some (C, T, N)) (k : Nat) (hk : k < N) (hlink : (Cond.fieldLinkNest own index ref (T k).2.1 (T k).2.2.1 host).before args s = true) (hsame : ∀ x, s.fieldFound? (T k).1 (T k).2.1 (T k).2.2.1 = some x → s.fieldFound? ref (T k).2.1 (T k).2.2.1 = some x) (hdg : decode cc pc = .ok (.getfield index, 3)) (kk : vx_NoteN p l e R s m args below meth c H locs cells slots Q (F0 m pc ls rest)) : W p l e R s m args below meth c H locs cells slots Q (F0 m pc ls (.null :: rest)) := by
  obtain ⟨hS, hfc, kC, hkC, -⟩ := hK.1 ci _ hc
  obtain ⟨cf, kf, fi, f, hi, -⟩ := hS k hk
  intro U hU X
  obtain ⟨vm', X1, st1⟩ := X.getfieldNullNest hexec hown hlink (hsame _ hi) (u_facts hfc hkC (u_lays hts hin hk) hi).1 (g := F0 m pc ls (.null :: rest)) rfl (rest := rest) rfl (by rw [hb]; exact hdg)
  obtain ⟨t, st, q⟩ := kk (U.setVm vm') hU X1
  exact ⟨t, st1 t st, q⟩
theorem vx_putfN {D cl tys} {own ref C : String} {T : u_T} {N ci index : Nat} {Ts : List Cond} (hexec : p.tables.exec = Jvm.exec) (hb : c.code = cc) (hts : ∀ w ∈ Ts, w.before args s = true) (hin : ∀ w ∈ u_ws C T N, w ∈ Ts) (hown : s.vm.findClass own = some m.cls) (hK : va_K D cl tys s) (hc : cl[ci]? = some (C, T, N)) (k : Nat) (hk : k < N) (hlink : (Cond.fieldLink own index ref (T k).2.1 (T k).2.2.1).before args s = true) (hsame : ∀ x, s.fieldFound? (T k).1 (T k).2.1 (T k).2.2.1 = some x → s.fieldFound? ref (T k).2.1 (T k).2.2.1 = some x) (hfin : (T k).2.2.2 = false) {v : Value} (hdg : decode cc pc = .ok (.putfield index, 3)) (kk : vx_NoteN p l e R s m args below meth c H locs cells slots Q (F0 m pc ls rest)) : W p l e R s m args below meth c H locs cells slots Q (F0 m pc ls (v :: .null :: rest)) := by
  obtain ⟨hS, hfc, kC, hkC, -⟩ := hK.1 ci _ hc
  obtain ⟨cf, kf, fi, f, hi, -⟩ := hS k hk
  have hlay := hts _ (hin _ (u_in_lay hk))
  unfold u_lay at hlay
  rw [if_neg (by rw [hfin]; decide)] at hlay
  obtain ⟨c9, k9, cf9, kf9, fi9, f9, -, -, hi9, hst9, hnf9, -⟩ := Cond.lays_spec hlay
  cases hi.symm.trans hi9
  intro U hU X
  obtain ⟨vm', X1, st1⟩ := X.putfieldNull hexec hown hlink (hsame _ hi) hst9 hnf9 (g := F0 m pc ls (v :: .null :: rest)) rfl (v := v) (rest := rest) rfl (by rw [hb]; exact hdg)
  obtain ⟨t, st, q⟩ := kk (U.setVm vm') hU X1
  exact ⟨t, st1 t st, q⟩
theorem vx_putfNN {D cl tys} {own ref C host : String} {T : u_T} {N ci index : Nat} {Ts : List Cond} (hexec : p.tables.exec = Jvm.exec) (hb : c.code = cc) (hts : ∀ w ∈ Ts, w.before args s = true) (hin : ∀ w ∈ u_ws C T N, w ∈ Ts) (hown : s.vm.findClass own = some m.cls) (hK : va_K D cl tys s) (hc : cl[ci]? = some (C, T, N)) (k : Nat) (hk : k < N) (hlink : (Cond.fieldLinkNest own index ref (T k).2.1 (T k).2.2.1 host).before args s = true) (hsame : ∀ x, s.fieldFound? (T k).1 (T k).2.1 (T k).2.2.1 = some x → s.fieldFound? ref (T k).2.1 (T k).2.2.1 = some x) (hfin : (T k).2.2.2 = false) {v : Value} (hdg : decode cc pc = .ok (.putfield index, 3)) (kk : vx_NoteN p l e R s m args below meth c H locs cells slots Q (F0 m pc ls rest)) : W p l e R s m args below meth c H locs cells slots Q (F0 m pc ls (v :: .null :: rest)) := by
  obtain ⟨hS, hfc, kC, hkC, -⟩ := hK.1 ci _ hc
  obtain ⟨cf, kf, fi, f, hi, -⟩ := hS k hk
  have hlay := hts _ (hin _ (u_in_lay hk))
  unfold u_lay at hlay
  rw [if_neg (by rw [hfin]; decide)] at hlay
  obtain ⟨c9, k9, cf9, kf9, fi9, f9, -, -, hi9, hst9, hnf9, -⟩ := Cond.lays_spec hlay
  cases hi.symm.trans hi9
  intro U hU X
  obtain ⟨vm', X1, st1⟩ := X.putfieldNullNest hexec hown hlink (hsame _ hi) hst9 hnf9 (g := F0 m pc ls (v :: .null :: rest)) rfl (v := v) (rest := rest) rfl (by rw [hb]; exact hdg)
  obtain ⟨t, st, q⟩ := kk (U.setVm vm') hU X1
  exact ⟨t, st1 t st, q⟩
theorem vx_athrowN (hexec : p.tables.exec = Jvm.exec) (hb : c.code = cc) (hdg : decode cc pc = .ok (.athrow, 1)) (k : vx_NoteN p l e R s m args below meth c H locs cells slots Q (F0 m pc ls rest)) : W p l e R s m args below meth c H locs cells slots Q (F0 m pc ls (.null :: rest)) := by
  intro T hT X
  obtain ⟨t, st, q⟩ := k T hT X
  exact ⟨t, X.athrowNull hexec (g := F0 m pc ls (.null :: rest)) rfl (rest := rest) rfl (by rw [hb]; exact hdg) t st, q⟩
end VXM2
/-! ===== END ===== -/
end
section
/-! names, fields, links and methods of the claim by their places in the tables: printed by wip/whole/names.py -/
def gTs : List Cond := lw_tbl.filter goodWord
theorem gmem {w : Cond} (i : Nat) (h : (decide (lw_tbl[i]? = some w) && goodWord w) = true) : w ∈ gTs := by
  simp only [Bool.and_eq_true, decide_eq_true_eq] at h
  exact List.mem_filter.mpr ⟨List.mem_of_getElem? h.1, h.2⟩
theorem gmems (ws : List Cond) (ps : List Nat) (h : (decide (ws.map some = ps.map (fun i => lw_tbl[i]?)) && ws.all goodWord) = true) : ∀ w ∈ ws, w ∈ gTs := by
  simp only [Bool.and_eq_true, decide_eq_true_eq] at h
  intro w hw
  have h1 : some w ∈ ps.map (fun i => lw_tbl[i]?) := by rw [← h.1]; exact List.mem_map_of_mem hw
  obtain ⟨i, -, hi⟩ := List.mem_map.mp h1
  exact List.mem_filter.mpr ⟨List.mem_of_getElem? hi, List.all_eq_true.mp h.2 w hw⟩
def gIsN (w : Cond) : Bool := match w with | .fieldLinkNest .. => true | .methodLinkNest .. => true | .castable .. => true | .declares .. => true | _ => false
def gNs : List Cond := lw_tbl.filter gIsN
theorem gmemN {w : Cond} (i : Nat) (h : (decide (lw_tbl[i]? = some w) && gIsN w) = true) : w ∈ gNs := by
  simp only [Bool.and_eq_true, decide_eq_true_eq] at h
  exact List.mem_filter.mpr ⟨List.mem_of_getElem? h.1, h.2⟩
theorem gNs_warm {s U : State} (hW : s.WarmedH U.vm) (h : ∀ w ∈ gNs, va_Nw w s) : ∀ w ∈ gNs, va_Nw w U := by
  intro w hw
  have h1 := h w hw
  have h2 := (List.mem_filter.mp hw).2
  cases w with
  | fieldLinkNest a b c d e f => exact va_Nw.warmF hW h1
  | methodLinkNest a b c d => exact va_Nw.warmM hW h1
  | castable a b => exact va_Nw.warmC hW h1
  | declares a => exact va_Nw.warmD hW h1
  | _ => cases h2
theorem gNs_of {args : Array Value} {s : State} (h : ∀ w ∈ lw_tbl, w.before args s = true) : ∀ w ∈ gNs, va_Nw w s := by
  intro w hw
  have h1 := h w (List.mem_filter.mp hw).1
  have h2 := (List.mem_filter.mp hw).2
  cases w with
  | fieldLinkNest a b c d e f => exact va_Nw.of rfl h1
  | methodLinkNest a b c d => exact va_Nw.of rfl h1
  | castable a b => exact va_Nw.of rfl h1
  | declares a => exact va_Nw.of rfl h1
  | _ => cases h2
theorem gNs_use {args : Array Value} {s : State} (h : ∀ w ∈ gNs, va_Nw w s) : ∀ w ∈ gNs, w.before args s = true := by
  intro w hw
  have h1 := h w hw
  have h2 := (List.mem_filter.mp hw).2
  cases w with
  | fieldLinkNest a b c d e f => exact va_Nw.use rfl h1
  | methodLinkNest a b c d => exact va_Nw.use rfl h1
  | castable a b => exact va_Nw.use rfl h1
  | declares a => exact va_Nw.use rfl h1
  | _ => cases h2
theorem gTs_good : GoodIn lw_tbl gTs := fun w hw => ⟨(List.mem_filter.mp hw).1, good_of_word (List.mem_filter.mp hw).2⟩
theorem gTs_self : GoodIn gTs gTs := fun w hw => ⟨hw, good_of_word (List.mem_filter.mp hw).2⟩
def gown (i : Nat) : String := match i with
  | 0 => "GoldSheets$Trays"
  | 1 => "GoldSheets$Sections"
  | 2 => "GoldSheets$Dome"
  | 3 => "GoldSheets$History"
  | 4 => "GoldSheets$SectionText"
  | 5 => "GoldSheets"
  | 6 => "GoldSheetsModel"
  | _ => "GoldSheetsLaw"
def gTTr : u_T := fun k => match k with
  | _ => ("GoldSheets$Trays", "cubes", "[I", true)
def gTSe : u_T := fun k => match k with
  | 0 => ("GoldSheets$Sections", "cells", "[I", true)
  | 1 => ("GoldSheets$Sections", "size", "I", false)
  | _ => ("GoldSheets$Sections", "came", "I", false)
def gTDo : u_T := fun k => match k with
  | 0 => ("GoldSheets$Dome", "trays", "LGoldSheets$Trays;", true)
  | 1 => ("GoldSheets$Dome", "sections", "LGoldSheets$Sections;", true)
  | 2 => ("GoldSheets$Dome", "settings", "[I", true)
  | 3 => ("GoldSheets$Dome", "sheets", "[I", true)
  | 4 => ("GoldSheets$Dome", "cut", "[I", true)
  | 5 => ("GoldSheets$Dome", "laid", "[I", true)
  | 6 => ("GoldSheets$Dome", "swept", "[I", true)
  | 7 => ("GoldSheets$Dome", "day", "I", false)
  | 8 => ("GoldSheets$Dome", "done", "I", false)
  | 9 => ("GoldSheets$Dome", "late", "I", false)
  | 10 => ("GoldSheets$Dome", "lateDays", "I", false)
  | _ => ("GoldSheets$Dome", "sorted", "I", false)
def gTHi : u_T := fun k => match k with
  | 0 => ("GoldSheets$History", "saved", "[LGoldSheets$Dome;", true)
  | _ => ("GoldSheets$History", "size", "I", false)
def gTTx : u_T := fun k => match k with
  | 0 => ("GoldSheets$SectionText", "codes", "[I", true)
  | 1 => ("GoldSheets$SectionText", "length", "I", false)
  | 2 => ("GoldSheets$SectionText", "tones", "[I", true)
  | 3 => ("GoldSheets$SectionText", "cubes", "[I", true)
  | 4 => ("GoldSheets$SectionText", "days", "[I", true)
  | 5 => ("GoldSheets$SectionText", "parts", "I", false)
  | 6 => ("GoldSheets$SectionText", "stage", "I", false)
  | 7 => ("GoldSheets$SectionText", "partTone", "I", false)
  | 8 => ("GoldSheets$SectionText", "partCubes", "I", false)
  | _ => ("GoldSheets$SectionText", "partDay", "I", false)
def gTGs : u_T := fun k => match k with
  | 0 => ("GoldSheets", "dome", "LGoldSheets$Dome;", true)
  | 1 => ("GoldSheets", "trial", "LGoldSheets$Dome;", true)
  | 2 => ("GoldSheets", "history", "LGoldSheets$History;", true)
  | 3 => ("GoldSheets", "text", "LGoldSheets$SectionText;", true)
  | _ => ("GoldSheets", "doneBehind", "[I", true)
def gTMo : u_T := fun k => match k with
  | 0 => ("GoldSheetsModel", "thrown", "I", false)
  | 1 => ("GoldSheetsModel", "z", "[I", true)
  | 2 => ("GoldSheetsModel", "saved", "[I", true)
  | 3 => ("GoldSheetsModel", "savedMany", "I", false)
  | 4 => ("GoldSheetsModel", "spare", "[I", true)
  | 5 => ("GoldSheetsModel", "buffer", "[I", true)
  | 6 => ("GoldSheetsModel", "typed", "I", false)
  | 7 => ("GoldSheetsModel", "order", "[I", true)
  | 8 => ("GoldSheetsModel", "setters", "I", false)
  | 9 => ("GoldSheetsModel", "parts", "[I", true)
  | 10 => ("GoldSheetsModel", "partMany", "I", false)
  | 11 => ("GoldSheetsModel", "spot", "I", false)
  | 12 => ("GoldSheetsModel", "wrong", "I", false)
  | _ => ("GoldSheetsModel", "hash", "J", false)
def gTt (i : Nat) : u_T := match i with
  | 0 => gTTr
  | 1 => gTSe
  | 2 => gTDo
  | 3 => gTHi
  | 4 => gTTx
  | 5 => gTGs
  | _ => gTMo
def gNn (i : Nat) : Nat := match i with
  | 0 => 1
  | 1 => 3
  | 2 => 12
  | 3 => 2
  | 4 => 10
  | 5 => 5
  | _ => 14
abbrev gcl : List vw_C := [(gown 0, gTTr, 1), (gown 1, gTSe, 3), (gown 2, gTDo, 12), (gown 3, gTHi, 2), (gown 4, gTTx, 10), (gown 5, gTGs, 5), (gown 6, gTMo, 14)]
theorem gcl_at {i : Nat} (h : i < 7) : gcl[i]? = some (gown i, gTt i, gNn i) := by
  rcases (show i = 0 ∨ i = 1 ∨ i = 2 ∨ i = 3 ∨ i = 4 ∨ i = 5 ∨ i = 6 by omega) with rfl | rfl | rfl | rfl | rfl | rfl | rfl <;> rfl
theorem ginTr : ∀ w ∈ u_ws (gown 0) gTTr 1, w ∈ gTs := gmems _ [107] (by decide +kernel)
theorem ginSe : ∀ w ∈ u_ws (gown 1) gTSe 3, w ∈ gTs := gmems _ [122, 124, 126] (by decide +kernel)
theorem ginDo : ∀ w ∈ u_ws (gown 2) gTDo 12, w ∈ gTs := gmems _ [164, 166, 168, 170, 172, 174, 176, 178, 180, 182, 184, 186] (by decide +kernel)
theorem ginHi : ∀ w ∈ u_ws (gown 3) gTHi 2, w ∈ gTs := gmems _ [201, 203] (by decide +kernel)
theorem ginTx : ∀ w ∈ u_ws (gown 4) gTTx 10, w ∈ gTs := gmems _ [228, 230, 232, 234, 236, 238, 240, 242, 244, 246] (by decide +kernel)
theorem ginGs : ∀ w ∈ u_ws (gown 5) gTGs 5, w ∈ gTs := gmems _ [254, 256, 258, 260, 262] (by decide +kernel)
theorem ginMo : ∀ w ∈ u_ws (gown 6) gTMo 14, w ∈ gTs := gmems _ [881, 883, 885, 887, 889, 891, 893, 895, 897, 899, 901, 903, 905, 907] (by decide +kernel)
theorem gin {i : Nat} (h : i < 7) : ∀ w ∈ u_ws (gown i) (gTt i) (gNn i), w ∈ gTs := by
  rcases (show i = 0 ∨ i = 1 ∨ i = 2 ∨ i = 3 ∨ i = 4 ∨ i = 5 ∨ i = 6 by omega) with rfl | rfl | rfl | rfl | rfl | rfl | rfl
  · exact ginTr
  · exact ginSe
  · exact ginDo
  · exact ginHi
  · exact ginTx
  · exact ginGs
  · exact ginMo
def gyTr : Nat → FieldType := fun k => match k with
  | _ => (.array .int)
def gySe : Nat → FieldType := fun k => match k with
  | 0 => (.array .int)
  | 1 => .int
  | _ => .int
def gyDo : Nat → FieldType := fun k => match k with
  | 0 => (.object "GoldSheets$Trays")
  | 1 => (.object "GoldSheets$Sections")
  | 2 => (.array .int)
  | 3 => (.array .int)
  | 4 => (.array .int)
  | 5 => (.array .int)
  | 6 => (.array .int)
  | 7 => .int
  | 8 => .int
  | 9 => .int
  | 10 => .int
  | _ => .int
def gyHi : Nat → FieldType := fun k => match k with
  | 0 => (.array (.object "GoldSheets$Dome"))
  | _ => .int
def gyTx : Nat → FieldType := fun k => match k with
  | 0 => (.array .int)
  | 1 => .int
  | 2 => (.array .int)
  | 3 => (.array .int)
  | 4 => (.array .int)
  | 5 => .int
  | 6 => .int
  | 7 => .int
  | 8 => .int
  | _ => .int
def gyGs : Nat → FieldType := fun k => match k with
  | 0 => (.object "GoldSheets$Dome")
  | 1 => (.object "GoldSheets$Dome")
  | 2 => (.object "GoldSheets$History")
  | 3 => (.object "GoldSheets$SectionText")
  | _ => (.array .int)
def gyMo : Nat → FieldType := fun k => match k with
  | 0 => .int
  | 1 => (.array .int)
  | 2 => (.array .int)
  | 3 => .int
  | 4 => (.array .int)
  | 5 => (.array .int)
  | 6 => .int
  | 7 => (.array .int)
  | 8 => .int
  | 9 => (.array .int)
  | 10 => .int
  | 11 => .int
  | 12 => .int
  | _ => .long
def gyt (i : Nat) : Nat → FieldType := match i with
  | 0 => gyTr
  | 1 => gySe
  | 2 => gyDo
  | 3 => gyHi
  | 4 => gyTx
  | 5 => gyGs
  | _ => gyMo
theorem gty {i : Nat} (h : i < 7) : ∀ k, k < gNn i → parseFieldDescriptor (gTt i k).2.2.1 = some (gyt i k) := by
  rcases (show i = 0 ∨ i = 1 ∨ i = 2 ∨ i = 3 ∨ i = 4 ∨ i = 5 ∨ i = 6 by omega) with rfl | rfl | rfl | rfl | rfl | rfl | rfl <;> decide +kernel
theorem gnm {i : Nat} (h : i < 7) : ∀ a, a < gNn i → ∀ b, b < gNn i → a ≠ b → (gTt i a).2.1 ≠ (gTt i b).2.1 := by
  rcases (show i = 0 ∨ i = 1 ∨ i = 2 ∨ i = 3 ∨ i = 4 ∨ i = 5 ∨ i = 6 by omega) with rfl | rfl | rfl | rfl | rfl | rfl | rfl <;> decide +kernel
/-- a field link: own class, pool index, class, field -/
abbrev gFR : Type := Nat × Nat × Nat × Nat
def gFok (r : gFR) : Prop := (Cond.fieldLink (gown r.1) r.2.1 (gown r.2.2.1) (gTt r.2.2.1 r.2.2.2).2.1 (gTt r.2.2.1 r.2.2.2).2.2.1 ∈ gTs ∨ (r.1 ≠ r.2.2.1 ∧ Cond.fieldLinkNest (gown r.1) r.2.1 (gown r.2.2.1) (gTt r.2.2.1 r.2.2.2).2.1 (gTt r.2.2.1 r.2.2.2).2.2.1 "GoldSheets" ∈ gNs)) ∧ r.2.2.1 < 7 ∧ r.2.2.2 < gNn r.2.2.1 ∧ (gTt r.2.2.1 r.2.2.2).1 = gown r.2.2.1
def gFTr : List (Nat × Nat × Nat) := [(9, 0, 0)]
def gFSe : List (Nat × Nat × Nat) := [(9, 1, 0), (19, 1, 1), (23, 1, 2)]
def gFDo : List (Nat × Nat × Nat) := [(121, 1, 1), (12, 2, 0), (21, 2, 1), (25, 2, 2), (29, 2, 3), (32, 2, 4), (35, 2, 5), (38, 2, 6), (55, 2, 7), (59, 2, 8), (62, 2, 9), (65, 2, 10), (68, 2, 11)]
def gFHi : List (Nat × Nat × Nat) := [(11, 3, 0), (18, 3, 1)]
def gFTx : List (Nat × Nat × Nat) := [(11, 4, 0), (24, 4, 1), (15, 4, 2), (18, 4, 3), (21, 4, 4), (28, 4, 5), (31, 4, 6), (63, 4, 7), (60, 4, 8), (69, 4, 9)]
def gFGs : List (Nat × Nat × Nat) := [(89, 1, 1), (175, 2, 0), (85, 2, 1), (229, 2, 2), (45, 2, 3), (198, 2, 4), (123, 2, 5), (201, 2, 6), (118, 2, 7), (209, 2, 8), (212, 2, 9), (215, 2, 10), (224, 2, 11), (169, 3, 1), (296, 4, 0), (133, 4, 1), (160, 4, 2), (163, 4, 3), (166, 4, 4), (155, 4, 5), (10, 5, 0), (16, 5, 1), (22, 5, 2), (29, 5, 3), (33, 5, 4)]
def gFMo : List (Nat × Nat × Nat) := [(28, 6, 0), (7, 6, 1), (13, 6, 2), (36, 6, 3), (16, 6, 4), (19, 6, 5), (129, 6, 6), (22, 6, 7), (105, 6, 8), (25, 6, 9), (145, 6, 10), (132, 6, 11), (135, 6, 12), (208, 6, 13)]
def gFl (o : Nat) : List (Nat × Nat × Nat) := match o with
  | 0 => gFTr
  | 1 => gFSe
  | 2 => gFDo
  | 3 => gFHi
  | 4 => gFTx
  | 5 => gFGs
  | 6 => gFMo
  | _ => []
def gfind (i : Nat) : List (Nat × Nat × Nat) → Option (Nat × Nat) | [] => none | q :: r => cond (Nat.beq q.1 i) (some q.2) (gfind i r)
theorem gfind_mem {i : Nat} {x : Nat × Nat} : ∀ {l : List (Nat × Nat × Nat)}, gfind i l = some x → (i, x) ∈ l
  | [], h => nomatch h
  | q :: r, h => by
    unfold gfind at h
    cases hb : Nat.beq q.1 i with
    | true =>
      rw [hb] at h
      have h1 : q.2 = x := Option.some.inj h
      have h2 : q.1 = i := Nat.eq_of_beq_eq_true hb
      rw [← h1, ← h2]
      exact List.mem_cons_self
    | false =>
      rw [hb] at h
      exact List.mem_cons_of_mem _ (gfind_mem h)
theorem gfk_0_9 : gFok (0, 9, 0, 0) := ⟨Or.inl (gmem 106 (by decide +kernel)), by decide, by decide, by decide +kernel⟩
theorem gfoTr : ∀ q ∈ gFTr, gFok (0, q) := by
  unfold gFTr
  exact List.forall_mem_cons.mpr ⟨gfk_0_9, fun _ h => absurd h List.not_mem_nil⟩
theorem gfk_1_9 : gFok (1, 9, 1, 0) := ⟨Or.inl (gmem 117 (by decide +kernel)), by decide, by decide, by decide +kernel⟩
theorem gfk_1_19 : gFok (1, 19, 1, 1) := ⟨Or.inl (gmem 118 (by decide +kernel)), by decide, by decide, by decide +kernel⟩
theorem gfk_1_23 : gFok (1, 23, 1, 2) := ⟨Or.inl (gmem 121 (by decide +kernel)), by decide, by decide, by decide +kernel⟩
theorem gfoSe : ∀ q ∈ gFSe, gFok (1, q) := by
  unfold gFSe
  exact List.forall_mem_cons.mpr ⟨gfk_1_9, List.forall_mem_cons.mpr ⟨gfk_1_19, List.forall_mem_cons.mpr ⟨gfk_1_23, fun _ h => absurd h List.not_mem_nil⟩⟩⟩
theorem gfk_2_121 : gFok (2, 121, 1, 1) := ⟨Or.inr ⟨by decide, gmemN 120 (by decide +kernel)⟩, by decide, by decide, by decide +kernel⟩
theorem gfk_2_12 : gFok (2, 12, 2, 0) := ⟨Or.inl (gmem 140 (by decide +kernel)), by decide, by decide, by decide +kernel⟩
theorem gfk_2_21 : gFok (2, 21, 2, 1) := ⟨Or.inl (gmem 142 (by decide +kernel)), by decide, by decide, by decide +kernel⟩
theorem gfk_2_25 : gFok (2, 25, 2, 2) := ⟨Or.inl (gmem 144 (by decide +kernel)), by decide, by decide, by decide +kernel⟩
theorem gfk_2_29 : gFok (2, 29, 2, 3) := ⟨Or.inl (gmem 146 (by decide +kernel)), by decide, by decide, by decide +kernel⟩
theorem gfk_2_32 : gFok (2, 32, 2, 4) := ⟨Or.inl (gmem 148 (by decide +kernel)), by decide, by decide, by decide +kernel⟩
theorem gfk_2_35 : gFok (2, 35, 2, 5) := ⟨Or.inl (gmem 150 (by decide +kernel)), by decide, by decide, by decide +kernel⟩
theorem gfk_2_38 : gFok (2, 38, 2, 6) := ⟨Or.inl (gmem 152 (by decide +kernel)), by decide, by decide, by decide +kernel⟩
theorem gfk_2_55 : gFok (2, 55, 2, 7) := ⟨Or.inl (gmem 154 (by decide +kernel)), by decide, by decide, by decide +kernel⟩
theorem gfk_2_59 : gFok (2, 59, 2, 8) := ⟨Or.inl (gmem 156 (by decide +kernel)), by decide, by decide, by decide +kernel⟩
theorem gfk_2_62 : gFok (2, 62, 2, 9) := ⟨Or.inl (gmem 158 (by decide +kernel)), by decide, by decide, by decide +kernel⟩
theorem gfk_2_65 : gFok (2, 65, 2, 10) := ⟨Or.inl (gmem 160 (by decide +kernel)), by decide, by decide, by decide +kernel⟩
theorem gfk_2_68 : gFok (2, 68, 2, 11) := ⟨Or.inl (gmem 162 (by decide +kernel)), by decide, by decide, by decide +kernel⟩
theorem gfoDo : ∀ q ∈ gFDo, gFok (2, q) := by
  unfold gFDo
  exact List.forall_mem_cons.mpr ⟨gfk_2_121, List.forall_mem_cons.mpr ⟨gfk_2_12, List.forall_mem_cons.mpr ⟨gfk_2_21, List.forall_mem_cons.mpr ⟨gfk_2_25, List.forall_mem_cons.mpr ⟨gfk_2_29, List.forall_mem_cons.mpr ⟨gfk_2_32, List.forall_mem_cons.mpr ⟨gfk_2_35, List.forall_mem_cons.mpr ⟨gfk_2_38, List.forall_mem_cons.mpr ⟨gfk_2_55, List.forall_mem_cons.mpr ⟨gfk_2_59, List.forall_mem_cons.mpr ⟨gfk_2_62, List.forall_mem_cons.mpr ⟨gfk_2_65, List.forall_mem_cons.mpr ⟨gfk_2_68, fun _ h => absurd h List.not_mem_nil⟩⟩⟩⟩⟩⟩⟩⟩⟩⟩⟩⟩⟩
theorem gfk_3_11 : gFok (3, 11, 3, 0) := ⟨Or.inl (gmem 198 (by decide +kernel)), by decide, by decide, by decide +kernel⟩
theorem gfk_3_18 : gFok (3, 18, 3, 1) := ⟨Or.inl (gmem 199 (by decide +kernel)), by decide, by decide, by decide +kernel⟩
theorem gfoHi : ∀ q ∈ gFHi, gFok (3, q) := by
  unfold gFHi
  exact List.forall_mem_cons.mpr ⟨gfk_3_11, List.forall_mem_cons.mpr ⟨gfk_3_18, fun _ h => absurd h List.not_mem_nil⟩⟩
theorem gfk_4_11 : gFok (4, 11, 4, 0) := ⟨Or.inl (gmem 212 (by decide +kernel)), by decide, by decide, by decide +kernel⟩
theorem gfk_4_24 : gFok (4, 24, 4, 1) := ⟨Or.inl (gmem 214 (by decide +kernel)), by decide, by decide, by decide +kernel⟩
theorem gfk_4_15 : gFok (4, 15, 4, 2) := ⟨Or.inl (gmem 216 (by decide +kernel)), by decide, by decide, by decide +kernel⟩
theorem gfk_4_18 : gFok (4, 18, 4, 3) := ⟨Or.inl (gmem 218 (by decide +kernel)), by decide, by decide, by decide +kernel⟩
theorem gfk_4_21 : gFok (4, 21, 4, 4) := ⟨Or.inl (gmem 220 (by decide +kernel)), by decide, by decide, by decide +kernel⟩
theorem gfk_4_28 : gFok (4, 28, 4, 5) := ⟨Or.inl (gmem 222 (by decide +kernel)), by decide, by decide, by decide +kernel⟩
theorem gfk_4_31 : gFok (4, 31, 4, 6) := ⟨Or.inl (gmem 224 (by decide +kernel)), by decide, by decide, by decide +kernel⟩
theorem gfk_4_63 : gFok (4, 63, 4, 7) := ⟨Or.inl (gmem 225 (by decide +kernel)), by decide, by decide, by decide +kernel⟩
theorem gfk_4_60 : gFok (4, 60, 4, 8) := ⟨Or.inl (gmem 226 (by decide +kernel)), by decide, by decide, by decide +kernel⟩
theorem gfk_4_69 : gFok (4, 69, 4, 9) := ⟨Or.inl (gmem 227 (by decide +kernel)), by decide, by decide, by decide +kernel⟩
theorem gfoTx : ∀ q ∈ gFTx, gFok (4, q) := by
  unfold gFTx
  exact List.forall_mem_cons.mpr ⟨gfk_4_11, List.forall_mem_cons.mpr ⟨gfk_4_24, List.forall_mem_cons.mpr ⟨gfk_4_15, List.forall_mem_cons.mpr ⟨gfk_4_18, List.forall_mem_cons.mpr ⟨gfk_4_21, List.forall_mem_cons.mpr ⟨gfk_4_28, List.forall_mem_cons.mpr ⟨gfk_4_31, List.forall_mem_cons.mpr ⟨gfk_4_63, List.forall_mem_cons.mpr ⟨gfk_4_60, List.forall_mem_cons.mpr ⟨gfk_4_69, fun _ h => absurd h List.not_mem_nil⟩⟩⟩⟩⟩⟩⟩⟩⟩⟩
theorem gfk_5_89 : gFok (5, 89, 1, 1) := ⟨Or.inr ⟨by decide, gmemN 119 (by decide +kernel)⟩, by decide, by decide, by decide +kernel⟩
theorem gfk_5_175 : gFok (5, 175, 2, 0) := ⟨Or.inr ⟨by decide, gmemN 141 (by decide +kernel)⟩, by decide, by decide, by decide +kernel⟩
theorem gfk_5_85 : gFok (5, 85, 2, 1) := ⟨Or.inr ⟨by decide, gmemN 143 (by decide +kernel)⟩, by decide, by decide, by decide +kernel⟩
theorem gfk_5_229 : gFok (5, 229, 2, 2) := ⟨Or.inr ⟨by decide, gmemN 145 (by decide +kernel)⟩, by decide, by decide, by decide +kernel⟩
theorem gfk_5_45 : gFok (5, 45, 2, 3) := ⟨Or.inr ⟨by decide, gmemN 147 (by decide +kernel)⟩, by decide, by decide, by decide +kernel⟩
theorem gfk_5_198 : gFok (5, 198, 2, 4) := ⟨Or.inr ⟨by decide, gmemN 149 (by decide +kernel)⟩, by decide, by decide, by decide +kernel⟩
theorem gfk_5_123 : gFok (5, 123, 2, 5) := ⟨Or.inr ⟨by decide, gmemN 151 (by decide +kernel)⟩, by decide, by decide, by decide +kernel⟩
theorem gfk_5_201 : gFok (5, 201, 2, 6) := ⟨Or.inr ⟨by decide, gmemN 153 (by decide +kernel)⟩, by decide, by decide, by decide +kernel⟩
theorem gfk_5_118 : gFok (5, 118, 2, 7) := ⟨Or.inr ⟨by decide, gmemN 155 (by decide +kernel)⟩, by decide, by decide, by decide +kernel⟩
theorem gfk_5_209 : gFok (5, 209, 2, 8) := ⟨Or.inr ⟨by decide, gmemN 157 (by decide +kernel)⟩, by decide, by decide, by decide +kernel⟩
theorem gfk_5_212 : gFok (5, 212, 2, 9) := ⟨Or.inr ⟨by decide, gmemN 159 (by decide +kernel)⟩, by decide, by decide, by decide +kernel⟩
theorem gfk_5_215 : gFok (5, 215, 2, 10) := ⟨Or.inr ⟨by decide, gmemN 161 (by decide +kernel)⟩, by decide, by decide, by decide +kernel⟩
theorem gfk_5_224 : gFok (5, 224, 2, 11) := ⟨Or.inr ⟨by decide, gmemN 163 (by decide +kernel)⟩, by decide, by decide, by decide +kernel⟩
theorem gfk_5_169 : gFok (5, 169, 3, 1) := ⟨Or.inr ⟨by decide, gmemN 200 (by decide +kernel)⟩, by decide, by decide, by decide +kernel⟩
theorem gfk_5_296 : gFok (5, 296, 4, 0) := ⟨Or.inr ⟨by decide, gmemN 213 (by decide +kernel)⟩, by decide, by decide, by decide +kernel⟩
theorem gfk_5_133 : gFok (5, 133, 4, 1) := ⟨Or.inr ⟨by decide, gmemN 215 (by decide +kernel)⟩, by decide, by decide, by decide +kernel⟩
theorem gfk_5_160 : gFok (5, 160, 4, 2) := ⟨Or.inr ⟨by decide, gmemN 217 (by decide +kernel)⟩, by decide, by decide, by decide +kernel⟩
theorem gfk_5_163 : gFok (5, 163, 4, 3) := ⟨Or.inr ⟨by decide, gmemN 219 (by decide +kernel)⟩, by decide, by decide, by decide +kernel⟩
theorem gfk_5_166 : gFok (5, 166, 4, 4) := ⟨Or.inr ⟨by decide, gmemN 221 (by decide +kernel)⟩, by decide, by decide, by decide +kernel⟩
theorem gfk_5_155 : gFok (5, 155, 4, 5) := ⟨Or.inr ⟨by decide, gmemN 223 (by decide +kernel)⟩, by decide, by decide, by decide +kernel⟩
theorem gfk_5_10 : gFok (5, 10, 5, 0) := ⟨Or.inl (gmem 249 (by decide +kernel)), by decide, by decide, by decide +kernel⟩
theorem gfk_5_16 : gFok (5, 16, 5, 1) := ⟨Or.inl (gmem 250 (by decide +kernel)), by decide, by decide, by decide +kernel⟩
theorem gfk_5_22 : gFok (5, 22, 5, 2) := ⟨Or.inl (gmem 251 (by decide +kernel)), by decide, by decide, by decide +kernel⟩
theorem gfk_5_29 : gFok (5, 29, 5, 3) := ⟨Or.inl (gmem 252 (by decide +kernel)), by decide, by decide, by decide +kernel⟩
theorem gfk_5_33 : gFok (5, 33, 5, 4) := ⟨Or.inl (gmem 253 (by decide +kernel)), by decide, by decide, by decide +kernel⟩
theorem gfoGs : ∀ q ∈ gFGs, gFok (5, q) := by
  unfold gFGs
  exact List.forall_mem_cons.mpr ⟨gfk_5_89, List.forall_mem_cons.mpr ⟨gfk_5_175, List.forall_mem_cons.mpr ⟨gfk_5_85, List.forall_mem_cons.mpr ⟨gfk_5_229, List.forall_mem_cons.mpr ⟨gfk_5_45, List.forall_mem_cons.mpr ⟨gfk_5_198, List.forall_mem_cons.mpr ⟨gfk_5_123, List.forall_mem_cons.mpr ⟨gfk_5_201, List.forall_mem_cons.mpr ⟨gfk_5_118, List.forall_mem_cons.mpr ⟨gfk_5_209, List.forall_mem_cons.mpr ⟨gfk_5_212, List.forall_mem_cons.mpr ⟨gfk_5_215, List.forall_mem_cons.mpr ⟨gfk_5_224, List.forall_mem_cons.mpr ⟨gfk_5_169, List.forall_mem_cons.mpr ⟨gfk_5_296, List.forall_mem_cons.mpr ⟨gfk_5_133, List.forall_mem_cons.mpr ⟨gfk_5_160, List.forall_mem_cons.mpr ⟨gfk_5_163, List.forall_mem_cons.mpr ⟨gfk_5_166, List.forall_mem_cons.mpr ⟨gfk_5_155, List.forall_mem_cons.mpr ⟨gfk_5_10, List.forall_mem_cons.mpr ⟨gfk_5_16, List.forall_mem_cons.mpr ⟨gfk_5_22, List.forall_mem_cons.mpr ⟨gfk_5_29, List.forall_mem_cons.mpr ⟨gfk_5_33, fun _ h => absurd h List.not_mem_nil⟩⟩⟩⟩⟩⟩⟩⟩⟩⟩⟩⟩⟩⟩⟩⟩⟩⟩⟩⟩⟩⟩⟩⟩⟩
theorem gfk_6_28 : gFok (6, 28, 6, 0) := ⟨Or.inl (gmem 867 (by decide +kernel)), by decide, by decide, by decide +kernel⟩
theorem gfk_6_7 : gFok (6, 7, 6, 1) := ⟨Or.inl (gmem 868 (by decide +kernel)), by decide, by decide, by decide +kernel⟩
theorem gfk_6_13 : gFok (6, 13, 6, 2) := ⟨Or.inl (gmem 869 (by decide +kernel)), by decide, by decide, by decide +kernel⟩
theorem gfk_6_36 : gFok (6, 36, 6, 3) := ⟨Or.inl (gmem 870 (by decide +kernel)), by decide, by decide, by decide +kernel⟩
theorem gfk_6_16 : gFok (6, 16, 6, 4) := ⟨Or.inl (gmem 871 (by decide +kernel)), by decide, by decide, by decide +kernel⟩
theorem gfk_6_19 : gFok (6, 19, 6, 5) := ⟨Or.inl (gmem 872 (by decide +kernel)), by decide, by decide, by decide +kernel⟩
theorem gfk_6_129 : gFok (6, 129, 6, 6) := ⟨Or.inl (gmem 873 (by decide +kernel)), by decide, by decide, by decide +kernel⟩
theorem gfk_6_22 : gFok (6, 22, 6, 7) := ⟨Or.inl (gmem 874 (by decide +kernel)), by decide, by decide, by decide +kernel⟩
theorem gfk_6_105 : gFok (6, 105, 6, 8) := ⟨Or.inl (gmem 875 (by decide +kernel)), by decide, by decide, by decide +kernel⟩
theorem gfk_6_25 : gFok (6, 25, 6, 9) := ⟨Or.inl (gmem 876 (by decide +kernel)), by decide, by decide, by decide +kernel⟩
theorem gfk_6_145 : gFok (6, 145, 6, 10) := ⟨Or.inl (gmem 877 (by decide +kernel)), by decide, by decide, by decide +kernel⟩
theorem gfk_6_132 : gFok (6, 132, 6, 11) := ⟨Or.inl (gmem 878 (by decide +kernel)), by decide, by decide, by decide +kernel⟩
theorem gfk_6_135 : gFok (6, 135, 6, 12) := ⟨Or.inl (gmem 879 (by decide +kernel)), by decide, by decide, by decide +kernel⟩
theorem gfk_6_208 : gFok (6, 208, 6, 13) := ⟨Or.inl (gmem 880 (by decide +kernel)), by decide, by decide, by decide +kernel⟩
theorem gfoMo : ∀ q ∈ gFMo, gFok (6, q) := by
  unfold gFMo
  exact List.forall_mem_cons.mpr ⟨gfk_6_28, List.forall_mem_cons.mpr ⟨gfk_6_7, List.forall_mem_cons.mpr ⟨gfk_6_13, List.forall_mem_cons.mpr ⟨gfk_6_36, List.forall_mem_cons.mpr ⟨gfk_6_16, List.forall_mem_cons.mpr ⟨gfk_6_19, List.forall_mem_cons.mpr ⟨gfk_6_129, List.forall_mem_cons.mpr ⟨gfk_6_22, List.forall_mem_cons.mpr ⟨gfk_6_105, List.forall_mem_cons.mpr ⟨gfk_6_25, List.forall_mem_cons.mpr ⟨gfk_6_145, List.forall_mem_cons.mpr ⟨gfk_6_132, List.forall_mem_cons.mpr ⟨gfk_6_135, List.forall_mem_cons.mpr ⟨gfk_6_208, fun _ h => absurd h List.not_mem_nil⟩⟩⟩⟩⟩⟩⟩⟩⟩⟩⟩⟩⟩⟩
theorem gF_ok {o i : Nat} {x : Nat × Nat} (h : gfind i (gFl o) = some x) : gFok (o, i, x) := by
  have hm := gfind_mem h
  unfold gFl at hm
  split at hm
  · exact gfoTr _ hm
  · exact gfoSe _ hm
  · exact gfoDo _ hm
  · exact gfoHi _ hm
  · exact gfoTx _ hm
  · exact gfoGs _ hm
  · exact gfoMo _ hm
  · exact absurd hm List.not_mem_nil
/-- a method: own class, name, code, locals, answer, handlers -/
abbrev gK : Type := Nat × MethodName × ByteArray × Nat × Option FieldType × List (Nat × Nat × Nat × Nat)
abbrev K_Gs_init : gK := (5, ⟨"GoldSheets", "<init>", "()V"⟩, prog_1_method_1_code, 1, none, [])
abbrev K_Do_init : gK := (2, ⟨"GoldSheets$Dome", "<init>", "()V"⟩, prog_2_method_1_code, 2, none, [])
abbrev K_Tr_init : gK := (0, ⟨"GoldSheets$Trays", "<init>", "()V"⟩, prog_6_method_1_code, 1, none, [])
abbrev K_Se_init : gK := (1, ⟨"GoldSheets$Sections", "<init>", "()V"⟩, prog_5_method_1_code, 1, none, [])
abbrev K_Gs_copyRow : gK := (5, ⟨"GoldSheets", "copyRow", "([I[I)V"⟩, prog_1_method_41_code, 2, none, [])
abbrev K_Hi_init : gK := (3, ⟨"GoldSheets$History", "<init>", "()V"⟩, prog_3_method_1_code, 2, none, [])
abbrev K_Tx_init : gK := (4, ⟨"GoldSheets$SectionText", "<init>", "()V"⟩, prog_4_method_1_code, 1, none, [])
abbrev K_Gs_clearBuffer : gK := (5, ⟨"GoldSheets", "clearBuffer", "()I"⟩, prog_1_method_11_code, 2, (some FieldType.int), [])
abbrev K_Tx_erase : gK := (4, ⟨"GoldSheets$SectionText", "erase", "()V"⟩, prog_4_method_2_code, 1, none, [])
abbrev K_Gs_firstError : gK := (5, ⟨"GoldSheets", "firstError", "()I"⟩, prog_1_method_12_code, 1, (some FieldType.int), [])
abbrev K_Tx_read : gK := (4, ⟨"GoldSheets$SectionText", "read", "()I"⟩, prog_4_method_4_code, 2, (some FieldType.int), [])
abbrev K_Tx_accepts : gK := (4, ⟨"GoldSheets$SectionText", "accepts", "(I)Z"⟩, prog_4_method_6_code, 2, (some FieldType.boolean), [])
abbrev K_Tx_acceptsFirstDigit : gK := (4, ⟨"GoldSheets$SectionText", "acceptsFirstDigit", "(I)Z"⟩, prog_4_method_7_code, 2, (some FieldType.boolean), [])
abbrev K_Tx_acceptsInCubes : gK := (4, ⟨"GoldSheets$SectionText", "acceptsInCubes", "(I)Z"⟩, prog_4_method_8_code, 3, (some FieldType.boolean), [])
abbrev K_Tx_isDigit : gK := (4, ⟨"GoldSheets$SectionText", "isDigit", "(I)Z"⟩, prog_4_method_12_code, 1, (some FieldType.boolean), [])
abbrev K_Tx_acceptsAt : gK := (4, ⟨"GoldSheets$SectionText", "acceptsAt", "(I)Z"⟩, prog_4_method_9_code, 2, (some FieldType.boolean), [])
abbrev K_Tx_acceptsDayDigit : gK := (4, ⟨"GoldSheets$SectionText", "acceptsDayDigit", "(I)Z"⟩, prog_4_method_10_code, 2, (some FieldType.boolean), [])
abbrev K_Tx_acceptsInDay : gK := (4, ⟨"GoldSheets$SectionText", "acceptsInDay", "(I)Z"⟩, prog_4_method_11_code, 3, (some FieldType.boolean), [])
abbrev K_Tx_keepPart : gK := (4, ⟨"GoldSheets$SectionText", "keepPart", "()V"⟩, prog_4_method_13_code, 1, none, [])
abbrev K_Gs_laidShare : gK := (5, ⟨"GoldSheets", "laidShare", "()D"⟩, prog_1_method_25_code, 2, (some FieldType.double), [])
abbrev K_Gs_sumOf : gK := (5, ⟨"GoldSheets", "sumOf", "([I)I"⟩, prog_1_method_40_code, 6, (some FieldType.int), [])
abbrev K_Gs_digest : gK := (5, ⟨"GoldSheets", "digest", "()J"⟩, prog_1_method_26_code, 4, (some FieldType.long), [])
abbrev K_Gs_count : gK := (5, ⟨"GoldSheets", "count", "(I)I"⟩, prog_1_method_18_code, 2, (some FieldType.int), [])
abbrev K_Tr_mixedTrays : gK := (0, ⟨"GoldSheets$Trays", "mixedTrays", "()I"⟩, prog_6_method_8_code, 3, (some FieldType.int), [])
abbrev K_Tr_tonesIn : gK := (0, ⟨"GoldSheets$Trays", "tonesIn", "(I)I"⟩, prog_6_method_7_code, 4, (some FieldType.int), [])
abbrev K_Tr_emptyTrays : gK := (0, ⟨"GoldSheets$Trays", "emptyTrays", "()I"⟩, prog_6_method_9_code, 3, (some FieldType.int), [])
abbrev K_Gs_setting : gK := (5, ⟨"GoldSheets", "setting", "(I)I"⟩, prog_1_method_19_code, 2, (some FieldType.int), [])
abbrev K_Gs_requireIndex : gK := (5, ⟨"GoldSheets", "requireIndex", "(II)V"⟩, prog_1_method_35_code, 2, none, [])
abbrev K_Gs_valueAt : gK := (5, ⟨"GoldSheets", "valueAt", "([II)I"⟩, prog_1_method_38_code, 2, (some FieldType.int), [])
abbrev K_Gs_hashOfTrays : gK := (5, ⟨"GoldSheets", "hashOfTrays", "(J)J"⟩, prog_1_method_27_code, 7, (some FieldType.long), [])
abbrev K_Gs_tray : gK := (5, ⟨"GoldSheets", "tray", "(II)I"⟩, prog_1_method_15_code, 3, (some FieldType.int), [])
abbrev K_Tr_heldInAll : gK := (0, ⟨"GoldSheets$Trays", "heldInAll", "(I)I"⟩, prog_6_method_5_code, 4, (some FieldType.int), [])
abbrev K_Tr_held : gK := (0, ⟨"GoldSheets$Trays", "held", "(II)I"⟩, prog_6_method_3_code, 4, (some FieldType.int), [])
abbrev K_Gs_hashOfSections : gK := (5, ⟨"GoldSheets", "hashOfSections", "(J)J"⟩, prog_1_method_28_code, 7, (some FieldType.long), [])
abbrev K_Gs_foreseeSections : gK := (5, ⟨"GoldSheets", "foreseeSections", "()V"⟩, prog_1_method_31_code, 2, none, [])
abbrev K_Do_copyFrom : gK := (2, ⟨"GoldSheets$Dome", "copyFrom", "(LGoldSheets$Dome;)V"⟩, prog_2_method_2_code, 2, none, [])
abbrev K_Tr_copyFrom : gK := (0, ⟨"GoldSheets$Trays", "copyFrom", "(LGoldSheets$Trays;)V"⟩, prog_6_method_2_code, 2, none, [])
abbrev K_Se_copyFrom : gK := (1, ⟨"GoldSheets$Sections", "copyFrom", "(LGoldSheets$Sections;)V"⟩, prog_5_method_2_code, 2, none, [])
abbrev K_Do_passDay : gK := (2, ⟨"GoldSheets$Dome", "passDay", "()V"⟩, prog_2_method_9_code, 3, none, [])
abbrev K_Tr_sortOut : gK := (0, ⟨"GoldSheets$Trays", "sortOut", "(II)V"⟩, prog_6_method_14_code, 6, none, [])
abbrev K_Tr_mostOf : gK := (0, ⟨"GoldSheets$Trays", "mostOf", "(I)I"⟩, prog_6_method_15_code, 4, (some FieldType.int), [])
abbrev K_Tr_lowestEmpty : gK := (0, ⟨"GoldSheets$Trays", "lowestEmpty", "()I"⟩, prog_6_method_16_code, 2, (some FieldType.int), [])
abbrev K_Tr_pour : gK := (0, ⟨"GoldSheets$Trays", "pour", "(IIII)I"⟩, prog_6_method_12_code, 6, (some FieldType.int), [])
abbrev K_Tr_change : gK := (0, ⟨"GoldSheets$Trays", "change", "(III)V"⟩, prog_6_method_4_code, 4, none, [])
abbrev K_Do_canBeLaid : gK := (2, ⟨"GoldSheets$Dome", "canBeLaid", "(I)Z"⟩, prog_2_method_10_code, 2, (some FieldType.boolean), [])
abbrev K_Se_valueOf : gK := (1, ⟨"GoldSheets$Sections", "valueOf", "(II)I"⟩, prog_5_method_3_code, 4, (some FieldType.int), [])
abbrev K_Tr_readyOf : gK := (0, ⟨"GoldSheets$Trays", "readyOf", "(I)I"⟩, prog_6_method_11_code, 4, (some FieldType.int), [])
abbrev K_Do_layOnce : gK := (2, ⟨"GoldSheets$Dome", "layOnce", "(I)V"⟩, prog_2_method_11_code, 6, none, [])
abbrev K_Do_takenFor : gK := (2, ⟨"GoldSheets$Dome", "takenFor", "(I)I"⟩, prog_2_method_14_code, 3, (some FieldType.int), [])
abbrev K_Tr_takeReady : gK := (0, ⟨"GoldSheets$Trays", "takeReady", "(II)I"⟩, prog_6_method_17_code, 6, (some FieldType.int), [])
abbrev K_Se_lay : gK := (1, ⟨"GoldSheets$Sections", "lay", "(II)V"⟩, prog_5_method_9_code, 3, none, [])
abbrev K_Se_put : gK := (1, ⟨"GoldSheets$Sections", "put", "(III)V"⟩, prog_5_method_4_code, 4, none, [])
abbrev K_Gs_addAt : gK := (5, ⟨"GoldSheets", "addAt", "([III)V"⟩, prog_1_method_39_code, 3, none, [])
abbrev K_Do_dismissDone : gK := (2, ⟨"GoldSheets$Dome", "dismissDone", "()V"⟩, prog_2_method_12_code, 2, none, [])
abbrev K_Do_countDone : gK := (2, ⟨"GoldSheets$Dome", "countDone", "(I)V"⟩, prog_2_method_13_code, 2, none, [])
abbrev K_Se_remove : gK := (1, ⟨"GoldSheets$Sections", "remove", "(I)V"⟩, prog_5_method_8_code, 4, none, [])
abbrev K_Se_arrange : gK := (1, ⟨"GoldSheets$Sections", "arrange", "(I)V"⟩, prog_5_method_10_code, 5, none, [])
abbrev K_Se_comesBefore : gK := (1, ⟨"GoldSheets$Sections", "comesBefore", "(III)Z"⟩, prog_5_method_11_code, 6, (some FieldType.boolean), [])
abbrev K_Se_swap : gK := (1, ⟨"GoldSheets$Sections", "swap", "(II)V"⟩, prog_5_method_12_code, 5, none, [])
abbrev K_Gs_noteDone : gK := (5, ⟨"GoldSheets", "noteDone", "(I)V"⟩, prog_1_method_32_code, 4, none, [])
abbrev K_Se_placeOf : gK := (1, ⟨"GoldSheets$Sections", "placeOf", "(I)I"⟩, prog_5_method_5_code, 3, (some FieldType.int), [])
abbrev K_Gs_sectionOf : gK := (5, ⟨"GoldSheets", "sectionOf", "(II)I"⟩, prog_1_method_16_code, 3, (some FieldType.int), [])
abbrev K_Gs_requireRange : gK := (5, ⟨"GoldSheets", "requireRange", "(III)V"⟩, prog_1_method_36_code, 3, none, [])
abbrev K_Gs_hashOfTones : gK := (5, ⟨"GoldSheets", "hashOfTones", "(J)J"⟩, prog_1_method_29_code, 7, (some FieldType.long), [])
abbrev K_Gs_tone : gK := (5, ⟨"GoldSheets", "tone", "(II)I"⟩, prog_1_method_17_code, 3, (some FieldType.int), [])
abbrev K_Tr_heldOf : gK := (0, ⟨"GoldSheets$Trays", "heldOf", "(I)I"⟩, prog_6_method_10_code, 4, (some FieldType.int), [])
abbrev K_Se_wantedOf : gK := (1, ⟨"GoldSheets$Sections", "wantedOf", "(I)I"⟩, prog_5_method_6_code, 4, (some FieldType.int), [])
abbrev K_Gs_missing : gK := (5, ⟨"GoldSheets", "missing", "(I)I"⟩, prog_1_method_21_code, 2, (some FieldType.int), [])
abbrev K_Do_missingSheets : gK := (2, ⟨"GoldSheets$Dome", "missingSheets", "(I)I"⟩, prog_2_method_15_code, 5, (some FieldType.int), [])
abbrev K_Gs_taken : gK := (5, ⟨"GoldSheets", "taken", "(I)I"⟩, prog_1_method_20_code, 2, (some FieldType.int), [])
abbrev K_Gs_ifPassed : gK := (5, ⟨"GoldSheets", "ifPassed", "(II)I"⟩, prog_1_method_22_code, 3, (some FieldType.int), [])
abbrev K_Gs_passTrial : gK := (5, ⟨"GoldSheets", "passTrial", "(II)V"⟩, prog_1_method_33_code, 4, none, [])
abbrev K_Do_changeSetting : gK := (2, ⟨"GoldSheets$Dome", "changeSetting", "(II)I"⟩, prog_2_method_8_code, 4, (some FieldType.int), [])
abbrev K_Gs_bestOrder : gK := (5, ⟨"GoldSheets", "bestOrder", "(I)I"⟩, prog_1_method_24_code, 4, (some FieldType.int), [])
abbrev K_Gs_bitsOf : gK := (5, ⟨"GoldSheets", "bitsOf", "(D)J"⟩, prog_1_method_37_code, 6, (some FieldType.long), [])
abbrev K_Gs_hashOfText : gK := (5, ⟨"GoldSheets", "hashOfText", "(J)J"⟩, prog_1_method_30_code, 6, (some FieldType.long), [])
abbrev K_Lw_store : gK := (7, ⟨"GoldSheetsLaw", "store", "(LGoldSheets;II[J)I"⟩, method_3_code, 5, (some FieldType.int), [((0 : Nat), (10 : Nat), (13 : Nat), (13 : Nat)), ((0 : Nat), (10 : Nat), (17 : Nat), (15 : Nat)), ((0 : Nat), (10 : Nat), (21 : Nat), (17 : Nat))])
abbrev K_Gs_store : gK := (5, ⟨"GoldSheets", "store", "(II)I"⟩, prog_1_method_2_code, 3, (some FieldType.int), [])
abbrev K_Hi_save : gK := (3, ⟨"GoldSheets$History", "save", "(LGoldSheets$Dome;)V"⟩, prog_3_method_2_code, 3, none, [])
abbrev K_Hi_dropOldest : gK := (3, ⟨"GoldSheets$History", "dropOldest", "()V"⟩, prog_3_method_5_code, 3, none, [])
abbrev K_Hi_slotAt : gK := (3, ⟨"GoldSheets$History", "slotAt", "(I)LGoldSheets$Dome;"⟩, prog_3_method_4_code, 2, (some (FieldType.object "GoldSheets$Dome")), [])
abbrev K_Lw_cut : gK := (7, ⟨"GoldSheetsLaw", "cut", "(LGoldSheets;II[J)I"⟩, method_4_code, 5, (some FieldType.int), [((0 : Nat), (10 : Nat), (13 : Nat), (13 : Nat)), ((0 : Nat), (10 : Nat), (17 : Nat), (17 : Nat))])
abbrev K_Gs_cut : gK := (5, ⟨"GoldSheets", "cut", "(II)I"⟩, prog_1_method_3_code, 3, (some FieldType.int), [])
abbrev K_Do_cutSheet : gK := (2, ⟨"GoldSheets$Dome", "cutSheet", "(II)I"⟩, prog_2_method_3_code, 5, (some FieldType.int), [])
abbrev K_Tr_freeIn : gK := (0, ⟨"GoldSheets$Trays", "freeIn", "(II)I"⟩, prog_6_method_6_code, 3, (some FieldType.int), [])
abbrev K_Lw_tip : gK := (7, ⟨"GoldSheetsLaw", "tip", "(LGoldSheets;II[J)I"⟩, method_5_code, 5, (some FieldType.int), [((0 : Nat), (10 : Nat), (13 : Nat), (13 : Nat)), ((0 : Nat), (10 : Nat), (17 : Nat), (15 : Nat))])
abbrev K_Gs_tip : gK := (5, ⟨"GoldSheets", "tip", "(II)I"⟩, prog_1_method_4_code, 3, (some FieldType.int), [])
abbrev K_Do_tipTray : gK := (2, ⟨"GoldSheets$Dome", "tipTray", "(II)I"⟩, prog_2_method_4_code, 5, (some FieldType.int), [])
abbrev K_Lw_sweep : gK := (7, ⟨"GoldSheetsLaw", "sweep", "(LGoldSheets;I[J)I"⟩, method_6_code, 4, (some FieldType.int), [((0 : Nat), (9 : Nat), (12 : Nat), (13 : Nat))])
abbrev K_Gs_sweep : gK := (5, ⟨"GoldSheets", "sweep", "(I)I"⟩, prog_1_method_5_code, 2, (some FieldType.int), [])
abbrev K_Do_sweepTray : gK := (2, ⟨"GoldSheets$Dome", "sweepTray", "(I)I"⟩, prog_2_method_5_code, 5, (some FieldType.int), [])
abbrev K_Tr_clear : gK := (0, ⟨"GoldSheets$Trays", "clear", "(II)I"⟩, prog_6_method_13_code, 4, (some FieldType.int), [])
abbrev K_Lw_section : gK := (7, ⟨"GoldSheetsLaw", "section", "(LGoldSheets;III[J)I"⟩, method_7_code, 6, (some FieldType.int), [((0 : Nat), (12 : Nat), (15 : Nat), (13 : Nat)), ((0 : Nat), (12 : Nat), (19 : Nat), (15 : Nat)), ((0 : Nat), (12 : Nat), (23 : Nat), (17 : Nat))])
abbrev K_Gs_section : gK := (5, ⟨"GoldSheets", "section", "(III)I"⟩, prog_1_method_6_code, 4, (some FieldType.int), [])
abbrev K_Do_addSection : gK := (2, ⟨"GoldSheets$Dome", "addSection", "(III)I"⟩, prog_2_method_6_code, 5, (some FieldType.int), [])
abbrev K_Se_add : gK := (1, ⟨"GoldSheets$Sections", "add", "(III)I"⟩, prog_5_method_7_code, 5, (some FieldType.int), [])
abbrev K_Lw_drop : gK := (7, ⟨"GoldSheetsLaw", "drop", "(LGoldSheets;I[J)I"⟩, method_8_code, 4, (some FieldType.int), [((0 : Nat), (9 : Nat), (12 : Nat), (13 : Nat))])
abbrev K_Gs_drop : gK := (5, ⟨"GoldSheets", "drop", "(I)I"⟩, prog_1_method_7_code, 3, (some FieldType.int), [])
abbrev K_Gs_requireSection : gK := (5, ⟨"GoldSheets", "requireSection", "(I)I"⟩, prog_1_method_34_code, 3, (some FieldType.int), [])
abbrev K_Do_dropSection : gK := (2, ⟨"GoldSheets$Dome", "dropSection", "(I)I"⟩, prog_2_method_7_code, 4, (some FieldType.int), [])
abbrev K_Lw_set : gK := (7, ⟨"GoldSheetsLaw", "set", "(LGoldSheets;II[J)I"⟩, method_9_code, 5, (some FieldType.int), [((0 : Nat), (10 : Nat), (13 : Nat), (13 : Nat)), ((0 : Nat), (10 : Nat), (17 : Nat), (15 : Nat))])
abbrev K_Gs_set : gK := (5, ⟨"GoldSheets", "set", "(II)I"⟩, prog_1_method_8_code, 3, (some FieldType.int), [])
abbrev K_Lw_pass : gK := (7, ⟨"GoldSheetsLaw", "pass", "(LGoldSheets;I[J)I"⟩, method_10_code, 4, (some FieldType.int), [((0 : Nat), (9 : Nat), (12 : Nat), (15 : Nat)), ((0 : Nat), (9 : Nat), (15 : Nat), (17 : Nat))])
abbrev K_Gs_pass : gK := (5, ⟨"GoldSheets", "pass", "(I)I"⟩, prog_1_method_9_code, 4, (some FieldType.int), [])
abbrev K_Lw_append : gK := (7, ⟨"GoldSheetsLaw", "append", "(LGoldSheets;I[J)I"⟩, method_11_code, 4, (some FieldType.int), [((0 : Nat), (9 : Nat), (12 : Nat), (15 : Nat)), ((0 : Nat), (9 : Nat), (15 : Nat), (17 : Nat))])
abbrev K_Gs_append : gK := (5, ⟨"GoldSheets", "append", "(I)I"⟩, prog_1_method_10_code, 2, (some FieldType.int), [])
abbrev K_Tx_add : gK := (4, ⟨"GoldSheets$SectionText", "add", "(I)V"⟩, prog_4_method_3_code, 2, none, [])
abbrev K_Lw_addAll : gK := (7, ⟨"GoldSheetsLaw", "addAll", "(LGoldSheets;[J)I"⟩, method_12_code, 3, (some FieldType.int), [((0 : Nat), (8 : Nat), (11 : Nat), (15 : Nat)), ((0 : Nat), (8 : Nat), (14 : Nat), (17 : Nat))])
abbrev K_Gs_addAll : gK := (5, ⟨"GoldSheets", "addAll", "()I"⟩, prog_1_method_13_code, 2, (some FieldType.int), [])
abbrev K_Tx_readSections : gK := (4, ⟨"GoldSheets$SectionText", "readSections", "()Z"⟩, prog_4_method_5_code, 1, (some FieldType.boolean), [])
abbrev K_Lw_undo : gK := (7, ⟨"GoldSheetsLaw", "undo", "(LGoldSheets;[J)I"⟩, method_13_code, 3, (some FieldType.int), [((0 : Nat), (8 : Nat), (11 : Nat), (17 : Nat))])
abbrev K_Gs_undo : gK := (5, ⟨"GoldSheets", "undo", "()I"⟩, prog_1_method_14_code, 1, (some FieldType.int), [])
abbrev K_Hi_restoreTo : gK := (3, ⟨"GoldSheets$History", "restoreTo", "(LGoldSheets$Dome;)V"⟩, prog_3_method_3_code, 3, none, [])
abbrev K_Lw_tray : gK := (7, ⟨"GoldSheetsLaw", "tray", "(LGoldSheets;II[J)I"⟩, method_14_code, 5, (some FieldType.int), [((0 : Nat), (10 : Nat), (13 : Nat), (13 : Nat))])
abbrev K_Lw_sectionOf : gK := (7, ⟨"GoldSheetsLaw", "sectionOf", "(LGoldSheets;II[J)I"⟩, method_15_code, 5, (some FieldType.int), [((0 : Nat), (10 : Nat), (13 : Nat), (15 : Nat))])
abbrev K_Lw_tone : gK := (7, ⟨"GoldSheetsLaw", "tone", "(LGoldSheets;II[J)I"⟩, method_16_code, 5, (some FieldType.int), [((0 : Nat), (10 : Nat), (13 : Nat), (13 : Nat)), ((0 : Nat), (10 : Nat), (17 : Nat), (15 : Nat))])
abbrev K_Lw_count : gK := (7, ⟨"GoldSheetsLaw", "count", "(LGoldSheets;I[J)I"⟩, method_17_code, 4, (some FieldType.int), [((0 : Nat), (9 : Nat), (12 : Nat), (15 : Nat))])
abbrev K_Lw_setting : gK := (7, ⟨"GoldSheetsLaw", "setting", "(LGoldSheets;I[J)I"⟩, method_18_code, 4, (some FieldType.int), [((0 : Nat), (9 : Nat), (12 : Nat), (13 : Nat))])
abbrev K_Lw_taken : gK := (7, ⟨"GoldSheetsLaw", "taken", "(LGoldSheets;I[J)I"⟩, method_19_code, 4, (some FieldType.int), [((0 : Nat), (9 : Nat), (12 : Nat), (15 : Nat))])
abbrev K_Lw_missing : gK := (7, ⟨"GoldSheetsLaw", "missing", "(LGoldSheets;I[J)I"⟩, method_20_code, 4, (some FieldType.int), [((0 : Nat), (9 : Nat), (12 : Nat), (13 : Nat))])
abbrev K_Lw_ifPassed : gK := (7, ⟨"GoldSheetsLaw", "ifPassed", "(LGoldSheets;II[J)I"⟩, method_21_code, 5, (some FieldType.int), [((0 : Nat), (10 : Nat), (13 : Nat), (15 : Nat))])
abbrev K_Lw_doneIn : gK := (7, ⟨"GoldSheetsLaw", "doneIn", "(LGoldSheets;I[J)I"⟩, method_22_code, 4, (some FieldType.int), [((0 : Nat), (9 : Nat), (12 : Nat), (13 : Nat))])
abbrev K_Gs_doneIn : gK := (5, ⟨"GoldSheets", "doneIn", "(I)I"⟩, prog_1_method_23_code, 3, (some FieldType.int), [])
abbrev K_Lw_bestOrder : gK := (7, ⟨"GoldSheetsLaw", "bestOrder", "(LGoldSheets;I[J)I"⟩, method_23_code, 4, (some FieldType.int), [((0 : Nat), (9 : Nat), (12 : Nat), (15 : Nat))])
abbrev K_Mo_init : gK := (6, ⟨"GoldSheetsModel", "<init>", "()V"⟩, prog_8_method_1_code, 2, none, [])
abbrev K_Mo_thrown : gK := (6, ⟨"GoldSheetsModel", "thrown", "()I"⟩, prog_8_method_2_code, 1, (some FieldType.int), [])
abbrev K_Mo_undo : gK := (6, ⟨"GoldSheetsModel", "undo", "()I"⟩, prog_8_method_10_code, 2, (some FieldType.int), [])
abbrev K_Mo_store : gK := (6, ⟨"GoldSheetsModel", "store", "(II)I"⟩, prog_8_method_19_code, 3, (some FieldType.int), [])
abbrev K_Mo_isTone : gK := (6, ⟨"GoldSheetsModel", "isTone", "(I)Z"⟩, prog_8_method_4_code, 1, (some FieldType.boolean), [])
abbrev K_Mo_in : gK := (6, ⟨"GoldSheetsModel", "in", "(III)Z"⟩, prog_8_method_3_code, 3, (some FieldType.boolean), [])
abbrev K_Mo_save : gK := (6, ⟨"GoldSheetsModel", "save", "()V"⟩, prog_8_method_9_code, 2, none, [])
abbrev K_Mo_cut : gK := (6, ⟨"GoldSheetsModel", "cut", "(II)I"⟩, prog_8_method_20_code, 5, (some FieldType.int), [])
abbrev K_Mo_isTray : gK := (6, ⟨"GoldSheetsModel", "isTray", "(I)Z"⟩, prog_8_method_5_code, 1, (some FieldType.boolean), [])
abbrev K_Mo_room : gK := (6, ⟨"GoldSheetsModel", "room", "(I)I"⟩, prog_8_method_15_code, 3, (some FieldType.int), [])
abbrev K_Mo_inTray : gK := (6, ⟨"GoldSheetsModel", "inTray", "(I)I"⟩, prog_8_method_13_code, 4, (some FieldType.int), [])
abbrev K_Mo_cubes : gK := (6, ⟨"GoldSheetsModel", "cubes", "(II)I"⟩, prog_8_method_6_code, 3, (some FieldType.int), [])
abbrev K_Mo_tip : gK := (6, ⟨"GoldSheetsModel", "tip", "(II)I"⟩, prog_8_method_21_code, 5, (some FieldType.int), [])
abbrev K_Mo_pour : gK := (6, ⟨"GoldSheetsModel", "pour", "(III)I"⟩, prog_8_method_16_code, 5, (some FieldType.int), [])
abbrev K_Mo_sweep : gK := (6, ⟨"GoldSheetsModel", "sweep", "(I)I"⟩, prog_8_method_22_code, 4, (some FieldType.int), [])
abbrev K_Mo_section : gK := (6, ⟨"GoldSheetsModel", "section", "(III)I"⟩, prog_8_method_24_code, 4, (some FieldType.int), [])
abbrev K_Mo_sectionAdded : gK := (6, ⟨"GoldSheetsModel", "sectionAdded", "(III)I"⟩, prog_8_method_23_code, 5, (some FieldType.int), [])
abbrev K_Mo_lay : gK := (6, ⟨"GoldSheetsModel", "lay", "(III)V"⟩, prog_8_method_8_code, 4, none, [])
abbrev K_Mo_drop : gK := (6, ⟨"GoldSheetsModel", "drop", "(I)I"⟩, prog_8_method_27_code, 4, (some FieldType.int), [])
abbrev K_Mo_placeOf : gK := (6, ⟨"GoldSheetsModel", "placeOf", "(I)I"⟩, prog_8_method_25_code, 4, (some FieldType.int), [])
abbrev K_Mo_its : gK := (6, ⟨"GoldSheetsModel", "its", "(II)I"⟩, prog_8_method_7_code, 3, (some FieldType.int), [])
abbrev K_Mo_takeOut : gK := (6, ⟨"GoldSheetsModel", "takeOut", "(I)V"⟩, prog_8_method_26_code, 3, none, [])
abbrev K_Mo_set : gK := (6, ⟨"GoldSheetsModel", "set", "(II)I"⟩, prog_8_method_29_code, 4, (some FieldType.int), [])
abbrev K_Mo_isValue : gK := (6, ⟨"GoldSheetsModel", "isValue", "(II)Z"⟩, prog_8_method_28_code, 2, (some FieldType.boolean), [])
abbrev K_Mo_pass : gK := (6, ⟨"GoldSheetsModel", "pass", "(I)I"⟩, prog_8_method_40_code, 2, (some FieldType.int), [])
abbrev K_Mo_days : gK := (6, ⟨"GoldSheetsModel", "days", "(I)I"⟩, prog_8_method_39_code, 4, (some FieldType.int), [])
abbrev K_Mo_work : gK := (6, ⟨"GoldSheetsModel", "work", "()I"⟩, prog_8_method_38_code, 3, (some FieldType.int), [])
abbrev K_Mo_tonesIn : gK := (6, ⟨"GoldSheetsModel", "tonesIn", "(I)I"⟩, prog_8_method_14_code, 4, (some FieldType.int), [])
abbrev K_Mo_sort : gK := (6, ⟨"GoldSheetsModel", "sort", "(I)V"⟩, prog_8_method_18_code, 5, none, [])
abbrev K_Mo_emptyTray : gK := (6, ⟨"GoldSheetsModel", "emptyTray", "()I"⟩, prog_8_method_17_code, 3, (some FieldType.int), [])
abbrev K_Mo_layOrder : gK := (6, ⟨"GoldSheetsModel", "layOrder", "()V"⟩, prog_8_method_31_code, 3, none, [])
abbrev K_Mo_isAhead : gK := (6, ⟨"GoldSheetsModel", "isAhead", "(II)Z"⟩, prog_8_method_30_code, 4, (some FieldType.boolean), [])
abbrev K_Mo_workOn : gK := (6, ⟨"GoldSheetsModel", "workOn", "(I)I"⟩, prog_8_method_36_code, 3, (some FieldType.int), [])
abbrev K_Mo_inTrays : gK := (6, ⟨"GoldSheetsModel", "inTrays", "(IZ)I"⟩, prog_8_method_34_code, 5, (some FieldType.int), [])
abbrev K_Mo_layCubes : gK := (6, ⟨"GoldSheetsModel", "layCubes", "(I)I"⟩, prog_8_method_35_code, 7, (some FieldType.int), [])
abbrev K_Mo_takenFor : gK := (6, ⟨"GoldSheetsModel", "takenFor", "(I)I"⟩, prog_8_method_33_code, 3, (some FieldType.int), [])
abbrev K_Mo_broken : gK := (6, ⟨"GoldSheetsModel", "broken", "(I)I"⟩, prog_8_method_32_code, 2, (some FieldType.int), [])
abbrev K_Mo_endDone : gK := (6, ⟨"GoldSheetsModel", "endDone", "()V"⟩, prog_8_method_37_code, 3, none, [])
abbrev K_Mo_append : gK := (6, ⟨"GoldSheetsModel", "append", "(I)I"⟩, prog_8_method_41_code, 2, (some FieldType.int), [])
abbrev K_Mo_clearBuffer : gK := (6, ⟨"GoldSheetsModel", "clearBuffer", "()I"⟩, prog_8_method_42_code, 2, (some FieldType.int), [])
abbrev K_Mo_firstError : gK := (6, ⟨"GoldSheetsModel", "firstError", "()I"⟩, prog_8_method_48_code, 2, (some FieldType.int), [])
abbrev K_Mo_readBuffer : gK := (6, ⟨"GoldSheetsModel", "readBuffer", "()I"⟩, prog_8_method_47_code, 2, (some FieldType.int), [])
abbrev K_Mo_readPart : gK := (6, ⟨"GoldSheetsModel", "readPart", "()V"⟩, prog_8_method_46_code, 2, none, [])
abbrev K_Mo_number : gK := (6, ⟨"GoldSheetsModel", "number", "(II)I"⟩, prog_8_method_45_code, 5, (some FieldType.int), [])
abbrev K_Mo_letter : gK := (6, ⟨"GoldSheetsModel", "letter", "()I"⟩, prog_8_method_43_code, 1, (some FieldType.int), [])
abbrev K_Mo_wants : gK := (6, ⟨"GoldSheetsModel", "wants", "(Z)V"⟩, prog_8_method_44_code, 2, none, [])
abbrev K_Mo_addAll : gK := (6, ⟨"GoldSheetsModel", "addAll", "()I"⟩, prog_8_method_49_code, 2, (some FieldType.int), [])
abbrev K_Mo_tray : gK := (6, ⟨"GoldSheetsModel", "tray", "(II)I"⟩, prog_8_method_50_code, 3, (some FieldType.int), [])
abbrev K_Mo_sectionOf : gK := (6, ⟨"GoldSheetsModel", "sectionOf", "(II)I"⟩, prog_8_method_52_code, 3, (some FieldType.int), [])
abbrev K_Mo_toldSection : gK := (6, ⟨"GoldSheetsModel", "toldSection", "(II)I"⟩, prog_8_method_51_code, 4, (some FieldType.int), [])
abbrev K_Mo_tone : gK := (6, ⟨"GoldSheetsModel", "tone", "(II)I"⟩, prog_8_method_55_code, 3, (some FieldType.int), [])
abbrev K_Mo_toldTone : gK := (6, ⟨"GoldSheetsModel", "toldTone", "(II)I"⟩, prog_8_method_54_code, 3, (some FieldType.int), [])
abbrev K_Mo_wanted : gK := (6, ⟨"GoldSheetsModel", "wanted", "(I)I"⟩, prog_8_method_53_code, 4, (some FieldType.int), [])
abbrev K_Mo_count : gK := (6, ⟨"GoldSheetsModel", "count", "(I)I"⟩, prog_8_method_59_code, 2, (some FieldType.int), [])
abbrev K_Mo_counted : gK := (6, ⟨"GoldSheetsModel", "counted", "(I)I"⟩, prog_8_method_58_code, 2, (some FieldType.int), [])
abbrev K_Mo_trays : gK := (6, ⟨"GoldSheetsModel", "trays", "(Z)I"⟩, prog_8_method_56_code, 4, (some FieldType.int), [])
abbrev K_Mo_allOf : gK := (6, ⟨"GoldSheetsModel", "allOf", "(I)I"⟩, prog_8_method_57_code, 4, (some FieldType.int), [])
abbrev K_Mo_setting : gK := (6, ⟨"GoldSheetsModel", "setting", "(I)I"⟩, prog_8_method_60_code, 2, (some FieldType.int), [])
abbrev K_Mo_taken : gK := (6, ⟨"GoldSheetsModel", "taken", "(I)I"⟩, prog_8_method_61_code, 2, (some FieldType.int), [])
abbrev K_Mo_missing : gK := (6, ⟨"GoldSheetsModel", "missing", "(I)I"⟩, prog_8_method_63_code, 2, (some FieldType.int), [])
abbrev K_Mo_lacks : gK := (6, ⟨"GoldSheetsModel", "lacks", "(I)I"⟩, prog_8_method_62_code, 4, (some FieldType.int), [])
abbrev K_Mo_ifPassed : gK := (6, ⟨"GoldSheetsModel", "ifPassed", "(II)I"⟩, prog_8_method_65_code, 3, (some FieldType.int), [])
abbrev K_Mo_wouldPass : gK := (6, ⟨"GoldSheetsModel", "wouldPass", "(II)I"⟩, prog_8_method_64_code, 5, (some FieldType.int), [])
abbrev K_Mo_putAside : gK := (6, ⟨"GoldSheetsModel", "putAside", "()V"⟩, prog_8_method_11_code, 2, none, [])
abbrev K_Mo_bringBack : gK := (6, ⟨"GoldSheetsModel", "bringBack", "()V"⟩, prog_8_method_12_code, 2, none, [])
abbrev K_Mo_doneIn : gK := (6, ⟨"GoldSheetsModel", "doneIn", "(I)I"⟩, prog_8_method_67_code, 2, (some FieldType.int), [])
abbrev K_Mo_daysTo : gK := (6, ⟨"GoldSheetsModel", "daysTo", "(I)I"⟩, prog_8_method_66_code, 4, (some FieldType.int), [])
abbrev K_Mo_bestOrder : gK := (6, ⟨"GoldSheetsModel", "bestOrder", "(I)I"⟩, prog_8_method_69_code, 2, (some FieldType.int), [])
abbrev K_Mo_bestFor : gK := (6, ⟨"GoldSheetsModel", "bestFor", "(I)I"⟩, prog_8_method_68_code, 7, (some FieldType.int), [])
abbrev K_Mo_laidShare : gK := (6, ⟨"GoldSheetsModel", "laidShare", "()D"⟩, prog_8_method_71_code, 1, (some FieldType.double), [])
abbrev K_Mo_share : gK := (6, ⟨"GoldSheetsModel", "share", "()D"⟩, prog_8_method_70_code, 1, (some FieldType.double), [])
abbrev K_Mo_digest : gK := (6, ⟨"GoldSheetsModel", "digest", "()J"⟩, prog_8_method_75_code, 3, (some FieldType.long), [])
abbrev K_Mo_mix : gK := (6, ⟨"GoldSheetsModel", "mix", "(J)V"⟩, prog_8_method_73_code, 3, none, [])
abbrev K_Mo_mixSections : gK := (6, ⟨"GoldSheetsModel", "mixSections", "()V"⟩, prog_8_method_74_code, 3, none, [])
abbrev K_Mo_bitsOf : gK := (6, ⟨"GoldSheetsModel", "bitsOf", "(D)J"⟩, prog_8_method_72_code, 6, (some FieldType.long), [])
def gwd (K : gK) : Cond := match K.2.2.2.2.2 with
  | [] => .code K.2.1 K.2.2.1 K.2.2.2.1 K.2.2.2.2.1
  | _ => .codeWith K.2.1 K.2.2.1 K.2.2.2.1 K.2.2.2.2.1 K.2.2.2.2.2
def gLkV (own : String) (i n : Nat) (K : gK) : Prop := (parseMethodDescriptor K.2.1.desc).map (fun d => d.parameters.length) = some n ∧ Cond.methodLink own i K.2.1 ∈ gTs ∧ Cond.instanceMethod K.2.1 ∈ gTs ∧ Cond.selects K.2.1.cls K.2.1 K.2.1 ∈ gTs ∧ Cond.initialized K.2.1.cls ∈ gTs ∧ gwd K ∈ gTs ∧ K.2.1.cls ≠ "java/lang/invoke/MethodHandle" ∧ K.2.1.cls ≠ "java/lang/invoke/VarHandle"
def gLkS (own : String) (i n : Nat) (K : gK) : Prop := (parseMethodDescriptor K.2.1.desc).map (fun d => d.parameters.length) = some n ∧ (Cond.methodLink own i K.2.1 ∈ gTs ∨ Cond.methodLinkNest own i K.2.1 "GoldSheets" ∈ gNs) ∧ Cond.static K.2.1 ∈ gTs ∧ Cond.initialized K.2.1.cls ∈ gTs ∧ gwd K ∈ gTs ∧ K.2.1.cls ≠ "java/lang/invoke/MethodHandle" ∧ K.2.1.cls ≠ "java/lang/invoke/VarHandle"
def gLkI (own : String) (i n : Nat) (K : gK) : Prop := (parseMethodDescriptor K.2.1.desc).map (fun d => d.parameters.length) = some n ∧ (Cond.methodLink own i K.2.1 ∈ gTs ∨ Cond.methodLinkNest own i K.2.1 "GoldSheets" ∈ gNs) ∧ Cond.instanceMethod K.2.1 ∈ gTs ∧ Cond.initialized K.2.1.cls ∈ gTs ∧ gwd K ∈ gTs ∧ K.2.1.name = "<init>" ∧ K.2.1.cls ≠ "java/lang/invoke/MethodHandle" ∧ K.2.1.cls ≠ "java/lang/invoke/VarHandle"
theorem lk_Lw_82 : gLkI "GoldSheetsLaw" 82 0 K_Gs_init := ⟨by decide +kernel, Or.inl (gmem 88 (by decide +kernel)), gmem 89 (by decide +kernel), gmem 71 (by decide +kernel), gmem 90 (by decide +kernel), by decide +kernel, by decide +kernel, by decide +kernel⟩
theorem lk_Gs_9 : gLkI "GoldSheets" 9 0 K_Do_init := ⟨by decide +kernel, Or.inl (gmem 96 (by decide +kernel)), gmem 97 (by decide +kernel), gmem 72 (by decide +kernel), gmem 98 (by decide +kernel), by decide +kernel, by decide +kernel, by decide +kernel⟩
theorem lk_Do_11 : gLkI "GoldSheets$Dome" 11 0 K_Tr_init := ⟨by decide +kernel, Or.inr (gmemN 102 (by decide +kernel)), gmem 103 (by decide +kernel), gmem 73 (by decide +kernel), gmem 104 (by decide +kernel), by decide +kernel, by decide +kernel, by decide +kernel⟩
theorem lk_Do_20 : gLkI "GoldSheets$Dome" 20 0 K_Se_init := ⟨by decide +kernel, Or.inr (gmemN 113 (by decide +kernel)), gmem 114 (by decide +kernel), gmem 74 (by decide +kernel), gmem 115 (by decide +kernel), by decide +kernel, by decide +kernel, by decide +kernel⟩
theorem lk_Do_44 : gLkS "GoldSheets$Dome" 44 2 K_Gs_copyRow := ⟨by decide +kernel, Or.inr (gmemN 131 (by decide +kernel)), gmem 132 (by decide +kernel), gmem 71 (by decide +kernel), gmem 133 (by decide +kernel), by decide +kernel, by decide +kernel⟩
theorem lk_Gs_21 : gLkI "GoldSheets" 21 0 K_Hi_init := ⟨by decide +kernel, Or.inl (gmem 191 (by decide +kernel)), gmem 192 (by decide +kernel), gmem 77 (by decide +kernel), gmem 193 (by decide +kernel), by decide +kernel, by decide +kernel, by decide +kernel⟩
theorem lk_Hi_17 : gLkI "GoldSheets$History" 17 0 K_Do_init := ⟨by decide +kernel, Or.inl (gmem 197 (by decide +kernel)), gmem 97 (by decide +kernel), gmem 72 (by decide +kernel), gmem 98 (by decide +kernel), by decide +kernel, by decide +kernel, by decide +kernel⟩
theorem lk_Gs_28 : gLkI "GoldSheets" 28 0 K_Tx_init := ⟨by decide +kernel, Or.inr (gmemN 208 (by decide +kernel)), gmem 209 (by decide +kernel), gmem 78 (by decide +kernel), gmem 210 (by decide +kernel), by decide +kernel, by decide +kernel, by decide +kernel⟩
theorem lk_Lw_121 : gLkV "GoldSheetsLaw" 121 0 K_Gs_clearBuffer := ⟨by decide +kernel, gmem 265 (by decide +kernel), gmem 266 (by decide +kernel), gmem 267 (by decide +kernel), gmem 71 (by decide +kernel), gmem 268 (by decide +kernel), by decide +kernel, by decide +kernel⟩
theorem lk_Gs_142 : gLkV "GoldSheets" 142 0 K_Tx_erase := ⟨by decide +kernel, gmem 269 (by decide +kernel), gmem 270 (by decide +kernel), gmem 271 (by decide +kernel), gmem 78 (by decide +kernel), gmem 272 (by decide +kernel), by decide +kernel, by decide +kernel⟩
theorem lk_Lw_125 : gLkV "GoldSheetsLaw" 125 0 K_Gs_firstError := ⟨by decide +kernel, gmem 273 (by decide +kernel), gmem 274 (by decide +kernel), gmem 275 (by decide +kernel), gmem 71 (by decide +kernel), gmem 276 (by decide +kernel), by decide +kernel, by decide +kernel⟩
theorem lk_Gs_145 : gLkV "GoldSheets" 145 0 K_Tx_read := ⟨by decide +kernel, gmem 277 (by decide +kernel), gmem 278 (by decide +kernel), gmem 279 (by decide +kernel), gmem 78 (by decide +kernel), gmem 280 (by decide +kernel), by decide +kernel, by decide +kernel⟩
theorem lk_Tx_34 : gLkV "GoldSheets$SectionText" 34 1 K_Tx_accepts := ⟨by decide +kernel, gmem 281 (by decide +kernel), gmem 283 (by decide +kernel), gmem 0 (by decide +kernel), gmem 78 (by decide +kernel), gmem 284 (by decide +kernel), by decide +kernel, by decide +kernel⟩
theorem lk_Tx_45 : gLkV "GoldSheets$SectionText" 45 1 K_Tx_acceptsFirstDigit := ⟨by decide +kernel, gmem 285 (by decide +kernel), gmem 287 (by decide +kernel), gmem 1 (by decide +kernel), gmem 78 (by decide +kernel), gmem 288 (by decide +kernel), by decide +kernel, by decide +kernel⟩
theorem lk_Tx_48 : gLkV "GoldSheets$SectionText" 48 1 K_Tx_acceptsInCubes := ⟨by decide +kernel, gmem 289 (by decide +kernel), gmem 291 (by decide +kernel), gmem 2 (by decide +kernel), gmem 78 (by decide +kernel), gmem 292 (by decide +kernel), by decide +kernel, by decide +kernel⟩
theorem lk_Tx_66 : gLkS "GoldSheets$SectionText" 66 1 K_Tx_isDigit := ⟨by decide +kernel, Or.inl (gmem 293 (by decide +kernel)), gmem 294 (by decide +kernel), gmem 78 (by decide +kernel), gmem 295 (by decide +kernel), by decide +kernel, by decide +kernel⟩
theorem lk_Tx_51 : gLkV "GoldSheets$SectionText" 51 1 K_Tx_acceptsAt := ⟨by decide +kernel, gmem 296 (by decide +kernel), gmem 298 (by decide +kernel), gmem 3 (by decide +kernel), gmem 78 (by decide +kernel), gmem 299 (by decide +kernel), by decide +kernel, by decide +kernel⟩
theorem lk_Tx_54 : gLkV "GoldSheets$SectionText" 54 1 K_Tx_acceptsDayDigit := ⟨by decide +kernel, gmem 300 (by decide +kernel), gmem 302 (by decide +kernel), gmem 4 (by decide +kernel), gmem 78 (by decide +kernel), gmem 303 (by decide +kernel), by decide +kernel, by decide +kernel⟩
theorem lk_Tx_57 : gLkV "GoldSheets$SectionText" 57 1 K_Tx_acceptsInDay := ⟨by decide +kernel, gmem 304 (by decide +kernel), gmem 306 (by decide +kernel), gmem 5 (by decide +kernel), gmem 78 (by decide +kernel), gmem 307 (by decide +kernel), by decide +kernel, by decide +kernel⟩
theorem lk_Tx_42 : gLkV "GoldSheets$SectionText" 42 0 K_Tx_keepPart := ⟨by decide +kernel, gmem 308 (by decide +kernel), gmem 310 (by decide +kernel), gmem 6 (by decide +kernel), gmem 78 (by decide +kernel), gmem 311 (by decide +kernel), by decide +kernel, by decide +kernel⟩
theorem lk_Lw_166 : gLkV "GoldSheetsLaw" 166 0 K_Gs_laidShare := ⟨by decide +kernel, gmem 312 (by decide +kernel), gmem 313 (by decide +kernel), gmem 314 (by decide +kernel), gmem 71 (by decide +kernel), gmem 315 (by decide +kernel), by decide +kernel, by decide +kernel⟩
theorem lk_Gs_126 : gLkS "GoldSheets" 126 1 K_Gs_sumOf := ⟨by decide +kernel, Or.inl (gmem 316 (by decide +kernel)), gmem 317 (by decide +kernel), gmem 71 (by decide +kernel), gmem 318 (by decide +kernel), by decide +kernel, by decide +kernel⟩
theorem lk_Lw_171 : gLkV "GoldSheetsLaw" 171 0 K_Gs_digest := ⟨by decide +kernel, gmem 319 (by decide +kernel), gmem 320 (by decide +kernel), gmem 321 (by decide +kernel), gmem 71 (by decide +kernel), gmem 322 (by decide +kernel), by decide +kernel, by decide +kernel⟩
theorem lk_Gs_248 : gLkV "GoldSheets" 248 1 K_Gs_count := ⟨by decide +kernel, gmem 325 (by decide +kernel), gmem 326 (by decide +kernel), gmem 327 (by decide +kernel), gmem 71 (by decide +kernel), gmem 328 (by decide +kernel), by decide +kernel, by decide +kernel⟩
theorem lk_Gs_218 : gLkV "GoldSheets" 218 0 K_Tr_mixedTrays := ⟨by decide +kernel, gmem 329 (by decide +kernel), gmem 330 (by decide +kernel), gmem 331 (by decide +kernel), gmem 73 (by decide +kernel), gmem 332 (by decide +kernel), by decide +kernel, by decide +kernel⟩
theorem lk_Tr_32 : gLkV "GoldSheets$Trays" 32 1 K_Tr_tonesIn := ⟨by decide +kernel, gmem 333 (by decide +kernel), gmem 334 (by decide +kernel), gmem 335 (by decide +kernel), gmem 73 (by decide +kernel), gmem 336 (by decide +kernel), by decide +kernel, by decide +kernel⟩
theorem lk_Gs_221 : gLkV "GoldSheets" 221 0 K_Tr_emptyTrays := ⟨by decide +kernel, gmem 337 (by decide +kernel), gmem 338 (by decide +kernel), gmem 339 (by decide +kernel), gmem 73 (by decide +kernel), gmem 340 (by decide +kernel), by decide +kernel, by decide +kernel⟩
theorem lk_Gs_251 : gLkV "GoldSheets" 251 1 K_Gs_setting := ⟨by decide +kernel, gmem 409 (by decide +kernel), gmem 410 (by decide +kernel), gmem 411 (by decide +kernel), gmem 71 (by decide +kernel), gmem 412 (by decide +kernel), by decide +kernel, by decide +kernel⟩
theorem lk_Gs_37 : gLkS "GoldSheets" 37 2 K_Gs_requireIndex := ⟨by decide +kernel, Or.inl (gmem 413 (by decide +kernel)), gmem 414 (by decide +kernel), gmem 71 (by decide +kernel), gmem 415 (by decide +kernel), by decide +kernel, by decide +kernel⟩
theorem lk_Gs_48 : gLkS "GoldSheets" 48 2 K_Gs_valueAt := ⟨by decide +kernel, Or.inl (gmem 432 (by decide +kernel)), gmem 433 (by decide +kernel), gmem 71 (by decide +kernel), gmem 434 (by decide +kernel), by decide +kernel, by decide +kernel⟩
theorem lk_Gs_254 : gLkV "GoldSheets" 254 1 K_Gs_hashOfTrays := ⟨by decide +kernel, gmem 435 (by decide +kernel), gmem 437 (by decide +kernel), gmem 8 (by decide +kernel), gmem 71 (by decide +kernel), gmem 438 (by decide +kernel), by decide +kernel, by decide +kernel⟩
theorem lk_Gs_284 : gLkV "GoldSheets" 284 2 K_Gs_tray := ⟨by decide +kernel, gmem 439 (by decide +kernel), gmem 440 (by decide +kernel), gmem 441 (by decide +kernel), gmem 71 (by decide +kernel), gmem 442 (by decide +kernel), by decide +kernel, by decide +kernel⟩
theorem lk_Gs_179 : gLkV "GoldSheets" 179 1 K_Tr_heldInAll := ⟨by decide +kernel, gmem 443 (by decide +kernel), gmem 444 (by decide +kernel), gmem 445 (by decide +kernel), gmem 73 (by decide +kernel), gmem 446 (by decide +kernel), by decide +kernel, by decide +kernel⟩
theorem lk_Tr_19 : gLkV "GoldSheets$Trays" 19 2 K_Tr_held := ⟨by decide +kernel, gmem 447 (by decide +kernel), gmem 448 (by decide +kernel), gmem 449 (by decide +kernel), gmem 73 (by decide +kernel), gmem 450 (by decide +kernel), by decide +kernel, by decide +kernel⟩
theorem lk_Gs_184 : gLkV "GoldSheets" 184 2 K_Tr_held := ⟨by decide +kernel, gmem 451 (by decide +kernel), gmem 448 (by decide +kernel), gmem 449 (by decide +kernel), gmem 73 (by decide +kernel), gmem 450 (by decide +kernel), by decide +kernel, by decide +kernel⟩
theorem lk_Gs_258 : gLkV "GoldSheets" 258 1 K_Gs_hashOfSections := ⟨by decide +kernel, gmem 452 (by decide +kernel), gmem 454 (by decide +kernel), gmem 9 (by decide +kernel), gmem 71 (by decide +kernel), gmem 455 (by decide +kernel), by decide +kernel, by decide +kernel⟩
theorem lk_Gs_241 : gLkV "GoldSheets" 241 0 K_Gs_foreseeSections := ⟨by decide +kernel, gmem 456 (by decide +kernel), gmem 458 (by decide +kernel), gmem 10 (by decide +kernel), gmem 71 (by decide +kernel), gmem 459 (by decide +kernel), by decide +kernel, by decide +kernel⟩
theorem lk_Gs_299 : gLkV "GoldSheets" 299 1 K_Do_copyFrom := ⟨by decide +kernel, gmem 460 (by decide +kernel), gmem 461 (by decide +kernel), gmem 462 (by decide +kernel), gmem 72 (by decide +kernel), gmem 463 (by decide +kernel), by decide +kernel, by decide +kernel⟩
theorem lk_Do_48 : gLkV "GoldSheets$Dome" 48 1 K_Tr_copyFrom := ⟨by decide +kernel, gmem 464 (by decide +kernel), gmem 465 (by decide +kernel), gmem 466 (by decide +kernel), gmem 73 (by decide +kernel), gmem 467 (by decide +kernel), by decide +kernel, by decide +kernel⟩
theorem lk_Tr_15 : gLkS "GoldSheets$Trays" 15 2 K_Gs_copyRow := ⟨by decide +kernel, Or.inr (gmemN 468 (by decide +kernel)), gmem 132 (by decide +kernel), gmem 71 (by decide +kernel), gmem 133 (by decide +kernel), by decide +kernel, by decide +kernel⟩
theorem lk_Do_52 : gLkV "GoldSheets$Dome" 52 1 K_Se_copyFrom := ⟨by decide +kernel, gmem 469 (by decide +kernel), gmem 470 (by decide +kernel), gmem 471 (by decide +kernel), gmem 74 (by decide +kernel), gmem 472 (by decide +kernel), by decide +kernel, by decide +kernel⟩
theorem lk_Se_15 : gLkS "GoldSheets$Sections" 15 2 K_Gs_copyRow := ⟨by decide +kernel, Or.inr (gmemN 473 (by decide +kernel)), gmem 132 (by decide +kernel), gmem 71 (by decide +kernel), gmem 133 (by decide +kernel), by decide +kernel, by decide +kernel⟩
theorem lk_Gs_130 : gLkV "GoldSheets" 130 0 K_Do_passDay := ⟨by decide +kernel, gmem 474 (by decide +kernel), gmem 475 (by decide +kernel), gmem 476 (by decide +kernel), gmem 72 (by decide +kernel), gmem 477 (by decide +kernel), by decide +kernel, by decide +kernel⟩
theorem lk_Do_113 : gLkV "GoldSheets$Dome" 113 1 K_Tr_tonesIn := ⟨by decide +kernel, gmem 478 (by decide +kernel), gmem 334 (by decide +kernel), gmem 335 (by decide +kernel), gmem 73 (by decide +kernel), gmem 336 (by decide +kernel), by decide +kernel, by decide +kernel⟩
theorem lk_Do_117 : gLkV "GoldSheets$Dome" 117 2 K_Tr_sortOut := ⟨by decide +kernel, gmem 479 (by decide +kernel), gmem 480 (by decide +kernel), gmem 481 (by decide +kernel), gmem 73 (by decide +kernel), gmem 482 (by decide +kernel), by decide +kernel, by decide +kernel⟩
theorem lk_Tr_42 : gLkV "GoldSheets$Trays" 42 1 K_Tr_mostOf := ⟨by decide +kernel, gmem 483 (by decide +kernel), gmem 485 (by decide +kernel), gmem 11 (by decide +kernel), gmem 73 (by decide +kernel), gmem 486 (by decide +kernel), by decide +kernel, by decide +kernel⟩
theorem lk_Tr_45 : gLkV "GoldSheets$Trays" 45 0 K_Tr_lowestEmpty := ⟨by decide +kernel, gmem 487 (by decide +kernel), gmem 489 (by decide +kernel), gmem 12 (by decide +kernel), gmem 73 (by decide +kernel), gmem 490 (by decide +kernel), by decide +kernel, by decide +kernel⟩
theorem lk_Tr_49 : gLkV "GoldSheets$Trays" 49 4 K_Tr_pour := ⟨by decide +kernel, gmem 491 (by decide +kernel), gmem 492 (by decide +kernel), gmem 493 (by decide +kernel), gmem 73 (by decide +kernel), gmem 494 (by decide +kernel), by decide +kernel, by decide +kernel⟩
theorem lk_Tr_38 : gLkV "GoldSheets$Trays" 38 3 K_Tr_change := ⟨by decide +kernel, gmem 496 (by decide +kernel), gmem 497 (by decide +kernel), gmem 498 (by decide +kernel), gmem 73 (by decide +kernel), gmem 499 (by decide +kernel), by decide +kernel, by decide +kernel⟩
theorem lk_Do_124 : gLkV "GoldSheets$Dome" 124 1 K_Do_canBeLaid := ⟨by decide +kernel, gmem 500 (by decide +kernel), gmem 502 (by decide +kernel), gmem 13 (by decide +kernel), gmem 72 (by decide +kernel), gmem 503 (by decide +kernel), by decide +kernel, by decide +kernel⟩
theorem lk_Do_103 : gLkV "GoldSheets$Dome" 103 2 K_Se_valueOf := ⟨by decide +kernel, gmem 504 (by decide +kernel), gmem 505 (by decide +kernel), gmem 506 (by decide +kernel), gmem 74 (by decide +kernel), gmem 507 (by decide +kernel), by decide +kernel, by decide +kernel⟩
theorem lk_Do_134 : gLkV "GoldSheets$Dome" 134 1 K_Tr_readyOf := ⟨by decide +kernel, gmem 508 (by decide +kernel), gmem 509 (by decide +kernel), gmem 510 (by decide +kernel), gmem 73 (by decide +kernel), gmem 511 (by decide +kernel), by decide +kernel, by decide +kernel⟩
theorem lk_Do_128 : gLkV "GoldSheets$Dome" 128 1 K_Do_layOnce := ⟨by decide +kernel, gmem 512 (by decide +kernel), gmem 514 (by decide +kernel), gmem 14 (by decide +kernel), gmem 72 (by decide +kernel), gmem 515 (by decide +kernel), by decide +kernel, by decide +kernel⟩
theorem lk_Do_137 : gLkV "GoldSheets$Dome" 137 1 K_Do_takenFor := ⟨by decide +kernel, gmem 516 (by decide +kernel), gmem 517 (by decide +kernel), gmem 518 (by decide +kernel), gmem 72 (by decide +kernel), gmem 519 (by decide +kernel), by decide +kernel, by decide +kernel⟩
theorem lk_Do_140 : gLkV "GoldSheets$Dome" 140 2 K_Tr_takeReady := ⟨by decide +kernel, gmem 521 (by decide +kernel), gmem 522 (by decide +kernel), gmem 523 (by decide +kernel), gmem 73 (by decide +kernel), gmem 524 (by decide +kernel), by decide +kernel, by decide +kernel⟩
theorem lk_Do_143 : gLkV "GoldSheets$Dome" 143 2 K_Se_lay := ⟨by decide +kernel, gmem 525 (by decide +kernel), gmem 526 (by decide +kernel), gmem 527 (by decide +kernel), gmem 74 (by decide +kernel), gmem 528 (by decide +kernel), by decide +kernel, by decide +kernel⟩
theorem lk_Se_26 : gLkV "GoldSheets$Sections" 26 2 K_Se_valueOf := ⟨by decide +kernel, gmem 529 (by decide +kernel), gmem 505 (by decide +kernel), gmem 506 (by decide +kernel), gmem 74 (by decide +kernel), gmem 507 (by decide +kernel), by decide +kernel, by decide +kernel⟩
theorem lk_Se_30 : gLkV "GoldSheets$Sections" 30 3 K_Se_put := ⟨by decide +kernel, gmem 530 (by decide +kernel), gmem 532 (by decide +kernel), gmem 15 (by decide +kernel), gmem 74 (by decide +kernel), gmem 533 (by decide +kernel), by decide +kernel, by decide +kernel⟩
theorem lk_Do_84 : gLkS "GoldSheets$Dome" 84 3 K_Gs_addAt := ⟨by decide +kernel, Or.inr (gmemN 534 (by decide +kernel)), gmem 535 (by decide +kernel), gmem 71 (by decide +kernel), gmem 536 (by decide +kernel), by decide +kernel, by decide +kernel⟩
theorem lk_Do_131 : gLkV "GoldSheets$Dome" 131 0 K_Do_dismissDone := ⟨by decide +kernel, gmem 537 (by decide +kernel), gmem 539 (by decide +kernel), gmem 16 (by decide +kernel), gmem 72 (by decide +kernel), gmem 540 (by decide +kernel), by decide +kernel, by decide +kernel⟩
theorem lk_Do_146 : gLkV "GoldSheets$Dome" 146 1 K_Do_countDone := ⟨by decide +kernel, gmem 541 (by decide +kernel), gmem 543 (by decide +kernel), gmem 17 (by decide +kernel), gmem 72 (by decide +kernel), gmem 544 (by decide +kernel), by decide +kernel, by decide +kernel⟩
theorem lk_Do_106 : gLkV "GoldSheets$Dome" 106 1 K_Se_remove := ⟨by decide +kernel, gmem 545 (by decide +kernel), gmem 546 (by decide +kernel), gmem 547 (by decide +kernel), gmem 74 (by decide +kernel), gmem 548 (by decide +kernel), by decide +kernel, by decide +kernel⟩
theorem lk_Do_99 : gLkV "GoldSheets$Dome" 99 1 K_Se_arrange := ⟨by decide +kernel, gmem 549 (by decide +kernel), gmem 550 (by decide +kernel), gmem 551 (by decide +kernel), gmem 74 (by decide +kernel), gmem 552 (by decide +kernel), by decide +kernel, by decide +kernel⟩
theorem lk_Se_34 : gLkV "GoldSheets$Sections" 34 3 K_Se_comesBefore := ⟨by decide +kernel, gmem 553 (by decide +kernel), gmem 555 (by decide +kernel), gmem 18 (by decide +kernel), gmem 74 (by decide +kernel), gmem 556 (by decide +kernel), by decide +kernel, by decide +kernel⟩
theorem lk_Se_38 : gLkV "GoldSheets$Sections" 38 2 K_Se_swap := ⟨by decide +kernel, gmem 557 (by decide +kernel), gmem 559 (by decide +kernel), gmem 19 (by decide +kernel), gmem 74 (by decide +kernel), gmem 560 (by decide +kernel), by decide +kernel, by decide +kernel⟩
theorem lk_Gs_302 : gLkV "GoldSheets" 302 1 K_Gs_noteDone := ⟨by decide +kernel, gmem 561 (by decide +kernel), gmem 563 (by decide +kernel), gmem 20 (by decide +kernel), gmem 71 (by decide +kernel), gmem 564 (by decide +kernel), by decide +kernel, by decide +kernel⟩
theorem lk_Gs_189 : gLkV "GoldSheets" 189 2 K_Se_valueOf := ⟨by decide +kernel, gmem 565 (by decide +kernel), gmem 505 (by decide +kernel), gmem 506 (by decide +kernel), gmem 74 (by decide +kernel), gmem 507 (by decide +kernel), by decide +kernel, by decide +kernel⟩
theorem lk_Gs_305 : gLkV "GoldSheets" 305 1 K_Se_placeOf := ⟨by decide +kernel, gmem 566 (by decide +kernel), gmem 567 (by decide +kernel), gmem 568 (by decide +kernel), gmem 74 (by decide +kernel), gmem 569 (by decide +kernel), by decide +kernel, by decide +kernel⟩
theorem lk_Gs_287 : gLkV "GoldSheets" 287 2 K_Gs_sectionOf := ⟨by decide +kernel, gmem 570 (by decide +kernel), gmem 571 (by decide +kernel), gmem 572 (by decide +kernel), gmem 71 (by decide +kernel), gmem 573 (by decide +kernel), by decide +kernel, by decide +kernel⟩
theorem lk_Gs_41 : gLkS "GoldSheets" 41 3 K_Gs_requireRange := ⟨by decide +kernel, Or.inl (gmem 575 (by decide +kernel)), gmem 576 (by decide +kernel), gmem 71 (by decide +kernel), gmem 577 (by decide +kernel), by decide +kernel, by decide +kernel⟩
theorem lk_Gs_261 : gLkV "GoldSheets" 261 1 K_Gs_hashOfTones := ⟨by decide +kernel, gmem 579 (by decide +kernel), gmem 581 (by decide +kernel), gmem 21 (by decide +kernel), gmem 71 (by decide +kernel), gmem 582 (by decide +kernel), by decide +kernel, by decide +kernel⟩
theorem lk_Gs_290 : gLkV "GoldSheets" 290 2 K_Gs_tone := ⟨by decide +kernel, gmem 583 (by decide +kernel), gmem 584 (by decide +kernel), gmem 585 (by decide +kernel), gmem 71 (by decide +kernel), gmem 586 (by decide +kernel), by decide +kernel, by decide +kernel⟩
theorem lk_Gs_192 : gLkV "GoldSheets" 192 1 K_Tr_heldOf := ⟨by decide +kernel, gmem 587 (by decide +kernel), gmem 588 (by decide +kernel), gmem 589 (by decide +kernel), gmem 73 (by decide +kernel), gmem 590 (by decide +kernel), by decide +kernel, by decide +kernel⟩
theorem lk_Gs_195 : gLkV "GoldSheets" 195 1 K_Tr_readyOf := ⟨by decide +kernel, gmem 591 (by decide +kernel), gmem 509 (by decide +kernel), gmem 510 (by decide +kernel), gmem 73 (by decide +kernel), gmem 511 (by decide +kernel), by decide +kernel, by decide +kernel⟩
theorem lk_Gs_204 : gLkV "GoldSheets" 204 1 K_Se_wantedOf := ⟨by decide +kernel, gmem 592 (by decide +kernel), gmem 593 (by decide +kernel), gmem 594 (by decide +kernel), gmem 74 (by decide +kernel), gmem 595 (by decide +kernel), by decide +kernel, by decide +kernel⟩
theorem lk_Gs_293 : gLkV "GoldSheets" 293 1 K_Gs_missing := ⟨by decide +kernel, gmem 597 (by decide +kernel), gmem 598 (by decide +kernel), gmem 599 (by decide +kernel), gmem 71 (by decide +kernel), gmem 600 (by decide +kernel), by decide +kernel, by decide +kernel⟩
theorem lk_Gs_235 : gLkV "GoldSheets" 235 1 K_Do_missingSheets := ⟨by decide +kernel, gmem 601 (by decide +kernel), gmem 602 (by decide +kernel), gmem 603 (by decide +kernel), gmem 72 (by decide +kernel), gmem 604 (by decide +kernel), by decide +kernel, by decide +kernel⟩
theorem lk_Do_109 : gLkS "GoldSheets$Dome" 109 2 K_Gs_valueAt := ⟨by decide +kernel, Or.inr (gmemN 605 (by decide +kernel)), gmem 433 (by decide +kernel), gmem 71 (by decide +kernel), gmem 434 (by decide +kernel), by decide +kernel, by decide +kernel⟩
theorem lk_Do_149 : gLkV "GoldSheets$Dome" 149 1 K_Tr_heldOf := ⟨by decide +kernel, gmem 606 (by decide +kernel), gmem 588 (by decide +kernel), gmem 589 (by decide +kernel), gmem 73 (by decide +kernel), gmem 590 (by decide +kernel), by decide +kernel, by decide +kernel⟩
theorem lk_Gs_264 : gLkV "GoldSheets" 264 1 K_Gs_taken := ⟨by decide +kernel, gmem 607 (by decide +kernel), gmem 608 (by decide +kernel), gmem 609 (by decide +kernel), gmem 71 (by decide +kernel), gmem 610 (by decide +kernel), by decide +kernel, by decide +kernel⟩
theorem lk_Gs_232 : gLkV "GoldSheets" 232 1 K_Do_takenFor := ⟨by decide +kernel, gmem 611 (by decide +kernel), gmem 517 (by decide +kernel), gmem 518 (by decide +kernel), gmem 72 (by decide +kernel), gmem 519 (by decide +kernel), by decide +kernel, by decide +kernel⟩
theorem lk_Gs_267 : gLkV "GoldSheets" 267 2 K_Gs_ifPassed := ⟨by decide +kernel, gmem 612 (by decide +kernel), gmem 613 (by decide +kernel), gmem 614 (by decide +kernel), gmem 71 (by decide +kernel), gmem 615 (by decide +kernel), by decide +kernel, by decide +kernel⟩
theorem lk_Gs_238 : gLkV "GoldSheets" 238 2 K_Gs_passTrial := ⟨by decide +kernel, gmem 616 (by decide +kernel), gmem 618 (by decide +kernel), gmem 22 (by decide +kernel), gmem 71 (by decide +kernel), gmem 619 (by decide +kernel), by decide +kernel, by decide +kernel⟩
theorem lk_Gs_115 : gLkV "GoldSheets" 115 2 K_Do_changeSetting := ⟨by decide +kernel, gmem 620 (by decide +kernel), gmem 621 (by decide +kernel), gmem 622 (by decide +kernel), gmem 72 (by decide +kernel), gmem 623 (by decide +kernel), by decide +kernel, by decide +kernel⟩
theorem lk_Gs_270 : gLkV "GoldSheets" 270 1 K_Gs_bestOrder := ⟨by decide +kernel, gmem 624 (by decide +kernel), gmem 625 (by decide +kernel), gmem 626 (by decide +kernel), gmem 71 (by decide +kernel), gmem 627 (by decide +kernel), by decide +kernel, by decide +kernel⟩
theorem lk_Gs_273 : gLkV "GoldSheets" 273 0 K_Gs_laidShare := ⟨by decide +kernel, gmem 628 (by decide +kernel), gmem 313 (by decide +kernel), gmem 314 (by decide +kernel), gmem 71 (by decide +kernel), gmem 315 (by decide +kernel), by decide +kernel, by decide +kernel⟩
theorem lk_Gs_277 : gLkS "GoldSheets" 277 1 K_Gs_bitsOf := ⟨by decide +kernel, Or.inl (gmem 629 (by decide +kernel)), gmem 630 (by decide +kernel), gmem 71 (by decide +kernel), gmem 631 (by decide +kernel), by decide +kernel, by decide +kernel⟩
theorem lk_Gs_281 : gLkV "GoldSheets" 281 1 K_Gs_hashOfText := ⟨by decide +kernel, gmem 635 (by decide +kernel), gmem 637 (by decide +kernel), gmem 23 (by decide +kernel), gmem 71 (by decide +kernel), gmem 638 (by decide +kernel), by decide +kernel, by decide +kernel⟩
theorem lk_Lw_86 : gLkS "GoldSheetsLaw" 86 4 K_Lw_store := ⟨by decide +kernel, Or.inl (gmem 639 (by decide +kernel)), gmem 640 (by decide +kernel), gmem 70 (by decide +kernel), gmem 641 (by decide +kernel), by decide +kernel, by decide +kernel⟩
theorem lk_Lw_7 : gLkV "GoldSheetsLaw" 7 2 K_Gs_store := ⟨by decide +kernel, gmem 645 (by decide +kernel), gmem 646 (by decide +kernel), gmem 647 (by decide +kernel), gmem 71 (by decide +kernel), gmem 648 (by decide +kernel), by decide +kernel, by decide +kernel⟩
theorem lk_Gs_59 : gLkV "GoldSheets" 59 1 K_Hi_save := ⟨by decide +kernel, gmem 665 (by decide +kernel), gmem 666 (by decide +kernel), gmem 667 (by decide +kernel), gmem 77 (by decide +kernel), gmem 668 (by decide +kernel), by decide +kernel, by decide +kernel⟩
theorem lk_Hi_22 : gLkV "GoldSheets$History" 22 0 K_Hi_dropOldest := ⟨by decide +kernel, gmem 669 (by decide +kernel), gmem 671 (by decide +kernel), gmem 24 (by decide +kernel), gmem 77 (by decide +kernel), gmem 672 (by decide +kernel), by decide +kernel, by decide +kernel⟩
theorem lk_Hi_25 : gLkV "GoldSheets$History" 25 1 K_Hi_slotAt := ⟨by decide +kernel, gmem 673 (by decide +kernel), gmem 675 (by decide +kernel), gmem 25 (by decide +kernel), gmem 77 (by decide +kernel), gmem 676 (by decide +kernel), by decide +kernel, by decide +kernel⟩
theorem lk_Hi_29 : gLkV "GoldSheets$History" 29 1 K_Do_copyFrom := ⟨by decide +kernel, gmem 677 (by decide +kernel), gmem 461 (by decide +kernel), gmem 462 (by decide +kernel), gmem 72 (by decide +kernel), gmem 463 (by decide +kernel), by decide +kernel, by decide +kernel⟩
theorem lk_Gs_63 : gLkS "GoldSheets" 63 3 K_Gs_addAt := ⟨by decide +kernel, Or.inl (gmem 678 (by decide +kernel)), gmem 535 (by decide +kernel), gmem 71 (by decide +kernel), gmem 536 (by decide +kernel), by decide +kernel, by decide +kernel⟩
theorem lk_Lw_95 : gLkS "GoldSheetsLaw" 95 4 K_Lw_cut := ⟨by decide +kernel, Or.inl (gmem 679 (by decide +kernel)), gmem 680 (by decide +kernel), gmem 70 (by decide +kernel), gmem 681 (by decide +kernel), by decide +kernel, by decide +kernel⟩
theorem lk_Lw_19 : gLkV "GoldSheetsLaw" 19 2 K_Gs_cut := ⟨by decide +kernel, gmem 682 (by decide +kernel), gmem 683 (by decide +kernel), gmem 684 (by decide +kernel), gmem 71 (by decide +kernel), gmem 685 (by decide +kernel), by decide +kernel, by decide +kernel⟩
theorem lk_Gs_69 : gLkV "GoldSheets" 69 2 K_Do_cutSheet := ⟨by decide +kernel, gmem 687 (by decide +kernel), gmem 688 (by decide +kernel), gmem 689 (by decide +kernel), gmem 72 (by decide +kernel), gmem 690 (by decide +kernel), by decide +kernel, by decide +kernel⟩
theorem lk_Do_71 : gLkV "GoldSheets$Dome" 71 2 K_Tr_freeIn := ⟨by decide +kernel, gmem 691 (by decide +kernel), gmem 692 (by decide +kernel), gmem 693 (by decide +kernel), gmem 73 (by decide +kernel), gmem 694 (by decide +kernel), by decide +kernel, by decide +kernel⟩
theorem lk_Tr_23 : gLkV "GoldSheets$Trays" 23 1 K_Tr_heldInAll := ⟨by decide +kernel, gmem 695 (by decide +kernel), gmem 444 (by decide +kernel), gmem 445 (by decide +kernel), gmem 73 (by decide +kernel), gmem 446 (by decide +kernel), by decide +kernel, by decide +kernel⟩
theorem lk_Do_80 : gLkV "GoldSheets$Dome" 80 3 K_Tr_change := ⟨by decide +kernel, gmem 699 (by decide +kernel), gmem 497 (by decide +kernel), gmem 498 (by decide +kernel), gmem 73 (by decide +kernel), gmem 499 (by decide +kernel), by decide +kernel, by decide +kernel⟩
theorem lk_Lw_98 : gLkS "GoldSheetsLaw" 98 4 K_Lw_tip := ⟨by decide +kernel, Or.inl (gmem 700 (by decide +kernel)), gmem 701 (by decide +kernel), gmem 70 (by decide +kernel), gmem 702 (by decide +kernel), by decide +kernel, by decide +kernel⟩
theorem lk_Lw_22 : gLkV "GoldSheetsLaw" 22 2 K_Gs_tip := ⟨by decide +kernel, gmem 703 (by decide +kernel), gmem 704 (by decide +kernel), gmem 705 (by decide +kernel), gmem 71 (by decide +kernel), gmem 706 (by decide +kernel), by decide +kernel, by decide +kernel⟩
theorem lk_Gs_78 : gLkV "GoldSheets" 78 2 K_Do_tipTray := ⟨by decide +kernel, gmem 708 (by decide +kernel), gmem 709 (by decide +kernel), gmem 710 (by decide +kernel), gmem 72 (by decide +kernel), gmem 711 (by decide +kernel), by decide +kernel, by decide +kernel⟩
theorem lk_Do_88 : gLkV "GoldSheets$Dome" 88 4 K_Tr_pour := ⟨by decide +kernel, gmem 712 (by decide +kernel), gmem 492 (by decide +kernel), gmem 493 (by decide +kernel), gmem 73 (by decide +kernel), gmem 494 (by decide +kernel), by decide +kernel, by decide +kernel⟩
theorem lk_Lw_101 : gLkS "GoldSheetsLaw" 101 3 K_Lw_sweep := ⟨by decide +kernel, Or.inl (gmem 713 (by decide +kernel)), gmem 714 (by decide +kernel), gmem 70 (by decide +kernel), gmem 715 (by decide +kernel), by decide +kernel, by decide +kernel⟩
theorem lk_Lw_25 : gLkV "GoldSheetsLaw" 25 1 K_Gs_sweep := ⟨by decide +kernel, gmem 716 (by decide +kernel), gmem 717 (by decide +kernel), gmem 718 (by decide +kernel), gmem 71 (by decide +kernel), gmem 719 (by decide +kernel), by decide +kernel, by decide +kernel⟩
theorem lk_Gs_81 : gLkV "GoldSheets" 81 1 K_Do_sweepTray := ⟨by decide +kernel, gmem 720 (by decide +kernel), gmem 721 (by decide +kernel), gmem 722 (by decide +kernel), gmem 72 (by decide +kernel), gmem 723 (by decide +kernel), by decide +kernel, by decide +kernel⟩
theorem lk_Do_92 : gLkV "GoldSheets$Dome" 92 2 K_Tr_clear := ⟨by decide +kernel, gmem 724 (by decide +kernel), gmem 725 (by decide +kernel), gmem 726 (by decide +kernel), gmem 73 (by decide +kernel), gmem 727 (by decide +kernel), by decide +kernel, by decide +kernel⟩
theorem lk_Lw_105 : gLkS "GoldSheetsLaw" 105 5 K_Lw_section := ⟨by decide +kernel, Or.inl (gmem 728 (by decide +kernel)), gmem 729 (by decide +kernel), gmem 70 (by decide +kernel), gmem 730 (by decide +kernel), by decide +kernel, by decide +kernel⟩
theorem lk_Lw_29 : gLkV "GoldSheetsLaw" 29 3 K_Gs_section := ⟨by decide +kernel, gmem 731 (by decide +kernel), gmem 732 (by decide +kernel), gmem 733 (by decide +kernel), gmem 71 (by decide +kernel), gmem 734 (by decide +kernel), by decide +kernel, by decide +kernel⟩
theorem lk_Gs_97 : gLkV "GoldSheets" 97 3 K_Do_addSection := ⟨by decide +kernel, gmem 736 (by decide +kernel), gmem 737 (by decide +kernel), gmem 738 (by decide +kernel), gmem 72 (by decide +kernel), gmem 739 (by decide +kernel), by decide +kernel, by decide +kernel⟩
theorem lk_Do_95 : gLkV "GoldSheets$Dome" 95 3 K_Se_add := ⟨by decide +kernel, gmem 740 (by decide +kernel), gmem 741 (by decide +kernel), gmem 742 (by decide +kernel), gmem 74 (by decide +kernel), gmem 743 (by decide +kernel), by decide +kernel, by decide +kernel⟩
theorem lk_Lw_109 : gLkS "GoldSheetsLaw" 109 3 K_Lw_drop := ⟨by decide +kernel, Or.inl (gmem 744 (by decide +kernel)), gmem 745 (by decide +kernel), gmem 70 (by decide +kernel), gmem 746 (by decide +kernel), by decide +kernel, by decide +kernel⟩
theorem lk_Lw_33 : gLkV "GoldSheetsLaw" 33 1 K_Gs_drop := ⟨by decide +kernel, gmem 747 (by decide +kernel), gmem 748 (by decide +kernel), gmem 749 (by decide +kernel), gmem 71 (by decide +kernel), gmem 750 (by decide +kernel), by decide +kernel, by decide +kernel⟩
theorem lk_Gs_101 : gLkV "GoldSheets" 101 1 K_Gs_requireSection := ⟨by decide +kernel, gmem 751 (by decide +kernel), gmem 753 (by decide +kernel), gmem 26 (by decide +kernel), gmem 71 (by decide +kernel), gmem 754 (by decide +kernel), by decide +kernel, by decide +kernel⟩
theorem lk_Gs_104 : gLkV "GoldSheets" 104 1 K_Do_dropSection := ⟨by decide +kernel, gmem 756 (by decide +kernel), gmem 757 (by decide +kernel), gmem 758 (by decide +kernel), gmem 72 (by decide +kernel), gmem 759 (by decide +kernel), by decide +kernel, by decide +kernel⟩
theorem lk_Lw_112 : gLkS "GoldSheetsLaw" 112 4 K_Lw_set := ⟨by decide +kernel, Or.inl (gmem 760 (by decide +kernel)), gmem 761 (by decide +kernel), gmem 70 (by decide +kernel), gmem 762 (by decide +kernel), by decide +kernel, by decide +kernel⟩
theorem lk_Lw_36 : gLkV "GoldSheetsLaw" 36 2 K_Gs_set := ⟨by decide +kernel, gmem 763 (by decide +kernel), gmem 764 (by decide +kernel), gmem 765 (by decide +kernel), gmem 71 (by decide +kernel), gmem 766 (by decide +kernel), by decide +kernel, by decide +kernel⟩
theorem lk_Lw_115 : gLkS "GoldSheetsLaw" 115 3 K_Lw_pass := ⟨by decide +kernel, Or.inl (gmem 772 (by decide +kernel)), gmem 773 (by decide +kernel), gmem 70 (by decide +kernel), gmem 774 (by decide +kernel), by decide +kernel, by decide +kernel⟩
theorem lk_Lw_39 : gLkV "GoldSheetsLaw" 39 1 K_Gs_pass := ⟨by decide +kernel, gmem 775 (by decide +kernel), gmem 776 (by decide +kernel), gmem 777 (by decide +kernel), gmem 71 (by decide +kernel), gmem 778 (by decide +kernel), by decide +kernel, by decide +kernel⟩
theorem lk_Lw_118 : gLkS "GoldSheetsLaw" 118 3 K_Lw_append := ⟨by decide +kernel, Or.inl (gmem 780 (by decide +kernel)), gmem 781 (by decide +kernel), gmem 70 (by decide +kernel), gmem 782 (by decide +kernel), by decide +kernel, by decide +kernel⟩
theorem lk_Lw_42 : gLkV "GoldSheetsLaw" 42 1 K_Gs_append := ⟨by decide +kernel, gmem 783 (by decide +kernel), gmem 784 (by decide +kernel), gmem 785 (by decide +kernel), gmem 71 (by decide +kernel), gmem 786 (by decide +kernel), by decide +kernel, by decide +kernel⟩
theorem lk_Gs_138 : gLkV "GoldSheets" 138 1 K_Tx_add := ⟨by decide +kernel, gmem 788 (by decide +kernel), gmem 789 (by decide +kernel), gmem 790 (by decide +kernel), gmem 78 (by decide +kernel), gmem 791 (by decide +kernel), by decide +kernel, by decide +kernel⟩
theorem lk_Lw_129 : gLkS "GoldSheetsLaw" 129 2 K_Lw_addAll := ⟨by decide +kernel, Or.inl (gmem 792 (by decide +kernel)), gmem 793 (by decide +kernel), gmem 70 (by decide +kernel), gmem 794 (by decide +kernel), by decide +kernel, by decide +kernel⟩
theorem lk_Lw_45 : gLkV "GoldSheetsLaw" 45 0 K_Gs_addAll := ⟨by decide +kernel, gmem 795 (by decide +kernel), gmem 796 (by decide +kernel), gmem 797 (by decide +kernel), gmem 71 (by decide +kernel), gmem 798 (by decide +kernel), by decide +kernel, by decide +kernel⟩
theorem lk_Gs_149 : gLkV "GoldSheets" 149 0 K_Tx_readSections := ⟨by decide +kernel, gmem 799 (by decide +kernel), gmem 800 (by decide +kernel), gmem 801 (by decide +kernel), gmem 78 (by decide +kernel), gmem 802 (by decide +kernel), by decide +kernel, by decide +kernel⟩
theorem lk_Tx_38 : gLkV "GoldSheets$SectionText" 38 0 K_Tx_read := ⟨by decide +kernel, gmem 803 (by decide +kernel), gmem 278 (by decide +kernel), gmem 279 (by decide +kernel), gmem 78 (by decide +kernel), gmem 280 (by decide +kernel), by decide +kernel, by decide +kernel⟩
theorem lk_Lw_133 : gLkS "GoldSheetsLaw" 133 2 K_Lw_undo := ⟨by decide +kernel, Or.inl (gmem 806 (by decide +kernel)), gmem 807 (by decide +kernel), gmem 70 (by decide +kernel), gmem 808 (by decide +kernel), by decide +kernel, by decide +kernel⟩
theorem lk_Lw_49 : gLkV "GoldSheetsLaw" 49 0 K_Gs_undo := ⟨by decide +kernel, gmem 809 (by decide +kernel), gmem 810 (by decide +kernel), gmem 811 (by decide +kernel), gmem 71 (by decide +kernel), gmem 812 (by decide +kernel), by decide +kernel, by decide +kernel⟩
theorem lk_Gs_172 : gLkV "GoldSheets" 172 1 K_Hi_restoreTo := ⟨by decide +kernel, gmem 814 (by decide +kernel), gmem 815 (by decide +kernel), gmem 816 (by decide +kernel), gmem 77 (by decide +kernel), gmem 817 (by decide +kernel), by decide +kernel, by decide +kernel⟩
theorem lk_Lw_136 : gLkS "GoldSheetsLaw" 136 4 K_Lw_tray := ⟨by decide +kernel, Or.inl (gmem 818 (by decide +kernel)), gmem 819 (by decide +kernel), gmem 70 (by decide +kernel), gmem 820 (by decide +kernel), by decide +kernel, by decide +kernel⟩
theorem lk_Lw_52 : gLkV "GoldSheetsLaw" 52 2 K_Gs_tray := ⟨by decide +kernel, gmem 821 (by decide +kernel), gmem 440 (by decide +kernel), gmem 441 (by decide +kernel), gmem 71 (by decide +kernel), gmem 442 (by decide +kernel), by decide +kernel, by decide +kernel⟩
theorem lk_Lw_139 : gLkS "GoldSheetsLaw" 139 4 K_Lw_sectionOf := ⟨by decide +kernel, Or.inl (gmem 822 (by decide +kernel)), gmem 823 (by decide +kernel), gmem 70 (by decide +kernel), gmem 824 (by decide +kernel), by decide +kernel, by decide +kernel⟩
theorem lk_Lw_55 : gLkV "GoldSheetsLaw" 55 2 K_Gs_sectionOf := ⟨by decide +kernel, gmem 825 (by decide +kernel), gmem 571 (by decide +kernel), gmem 572 (by decide +kernel), gmem 71 (by decide +kernel), gmem 573 (by decide +kernel), by decide +kernel, by decide +kernel⟩
theorem lk_Lw_142 : gLkS "GoldSheetsLaw" 142 4 K_Lw_tone := ⟨by decide +kernel, Or.inl (gmem 826 (by decide +kernel)), gmem 827 (by decide +kernel), gmem 70 (by decide +kernel), gmem 828 (by decide +kernel), by decide +kernel, by decide +kernel⟩
theorem lk_Lw_58 : gLkV "GoldSheetsLaw" 58 2 K_Gs_tone := ⟨by decide +kernel, gmem 829 (by decide +kernel), gmem 584 (by decide +kernel), gmem 585 (by decide +kernel), gmem 71 (by decide +kernel), gmem 586 (by decide +kernel), by decide +kernel, by decide +kernel⟩
theorem lk_Lw_145 : gLkS "GoldSheetsLaw" 145 3 K_Lw_count := ⟨by decide +kernel, Or.inl (gmem 830 (by decide +kernel)), gmem 831 (by decide +kernel), gmem 70 (by decide +kernel), gmem 832 (by decide +kernel), by decide +kernel, by decide +kernel⟩
theorem lk_Lw_61 : gLkV "GoldSheetsLaw" 61 1 K_Gs_count := ⟨by decide +kernel, gmem 833 (by decide +kernel), gmem 326 (by decide +kernel), gmem 327 (by decide +kernel), gmem 71 (by decide +kernel), gmem 328 (by decide +kernel), by decide +kernel, by decide +kernel⟩
theorem lk_Lw_148 : gLkS "GoldSheetsLaw" 148 3 K_Lw_setting := ⟨by decide +kernel, Or.inl (gmem 834 (by decide +kernel)), gmem 835 (by decide +kernel), gmem 70 (by decide +kernel), gmem 836 (by decide +kernel), by decide +kernel, by decide +kernel⟩
theorem lk_Lw_64 : gLkV "GoldSheetsLaw" 64 1 K_Gs_setting := ⟨by decide +kernel, gmem 837 (by decide +kernel), gmem 410 (by decide +kernel), gmem 411 (by decide +kernel), gmem 71 (by decide +kernel), gmem 412 (by decide +kernel), by decide +kernel, by decide +kernel⟩
theorem lk_Lw_151 : gLkS "GoldSheetsLaw" 151 3 K_Lw_taken := ⟨by decide +kernel, Or.inl (gmem 838 (by decide +kernel)), gmem 839 (by decide +kernel), gmem 70 (by decide +kernel), gmem 840 (by decide +kernel), by decide +kernel, by decide +kernel⟩
theorem lk_Lw_67 : gLkV "GoldSheetsLaw" 67 1 K_Gs_taken := ⟨by decide +kernel, gmem 841 (by decide +kernel), gmem 608 (by decide +kernel), gmem 609 (by decide +kernel), gmem 71 (by decide +kernel), gmem 610 (by decide +kernel), by decide +kernel, by decide +kernel⟩
theorem lk_Lw_154 : gLkS "GoldSheetsLaw" 154 3 K_Lw_missing := ⟨by decide +kernel, Or.inl (gmem 842 (by decide +kernel)), gmem 843 (by decide +kernel), gmem 70 (by decide +kernel), gmem 844 (by decide +kernel), by decide +kernel, by decide +kernel⟩
theorem lk_Lw_70 : gLkV "GoldSheetsLaw" 70 1 K_Gs_missing := ⟨by decide +kernel, gmem 845 (by decide +kernel), gmem 598 (by decide +kernel), gmem 599 (by decide +kernel), gmem 71 (by decide +kernel), gmem 600 (by decide +kernel), by decide +kernel, by decide +kernel⟩
theorem lk_Lw_157 : gLkS "GoldSheetsLaw" 157 4 K_Lw_ifPassed := ⟨by decide +kernel, Or.inl (gmem 846 (by decide +kernel)), gmem 847 (by decide +kernel), gmem 70 (by decide +kernel), gmem 848 (by decide +kernel), by decide +kernel, by decide +kernel⟩
theorem lk_Lw_73 : gLkV "GoldSheetsLaw" 73 2 K_Gs_ifPassed := ⟨by decide +kernel, gmem 849 (by decide +kernel), gmem 613 (by decide +kernel), gmem 614 (by decide +kernel), gmem 71 (by decide +kernel), gmem 615 (by decide +kernel), by decide +kernel, by decide +kernel⟩
theorem lk_Lw_160 : gLkS "GoldSheetsLaw" 160 3 K_Lw_doneIn := ⟨by decide +kernel, Or.inl (gmem 850 (by decide +kernel)), gmem 851 (by decide +kernel), gmem 70 (by decide +kernel), gmem 852 (by decide +kernel), by decide +kernel, by decide +kernel⟩
theorem lk_Lw_76 : gLkV "GoldSheetsLaw" 76 1 K_Gs_doneIn := ⟨by decide +kernel, gmem 853 (by decide +kernel), gmem 854 (by decide +kernel), gmem 855 (by decide +kernel), gmem 71 (by decide +kernel), gmem 856 (by decide +kernel), by decide +kernel, by decide +kernel⟩
theorem lk_Lw_163 : gLkS "GoldSheetsLaw" 163 3 K_Lw_bestOrder := ⟨by decide +kernel, Or.inl (gmem 857 (by decide +kernel)), gmem 858 (by decide +kernel), gmem 70 (by decide +kernel), gmem 859 (by decide +kernel), by decide +kernel, by decide +kernel⟩
theorem lk_Lw_79 : gLkV "GoldSheetsLaw" 79 1 K_Gs_bestOrder := ⟨by decide +kernel, gmem 860 (by decide +kernel), gmem 625 (by decide +kernel), gmem 626 (by decide +kernel), gmem 71 (by decide +kernel), gmem 627 (by decide +kernel), by decide +kernel, by decide +kernel⟩
theorem lk_Lw_85 : gLkI "GoldSheetsLaw" 85 0 K_Mo_init := ⟨by decide +kernel, Or.inl (gmem 863 (by decide +kernel)), gmem 864 (by decide +kernel), gmem 79 (by decide +kernel), gmem 865 (by decide +kernel), by decide +kernel, by decide +kernel, by decide +kernel⟩
theorem lk_Lw_92 : gLkV "GoldSheetsLaw" 92 0 K_Mo_thrown := ⟨by decide +kernel, gmem 910 (by decide +kernel), gmem 911 (by decide +kernel), gmem 912 (by decide +kernel), gmem 79 (by decide +kernel), gmem 913 (by decide +kernel), by decide +kernel, by decide +kernel⟩
theorem lk_Lw_135 : gLkV "GoldSheetsLaw" 135 0 K_Mo_undo := ⟨by decide +kernel, gmem 914 (by decide +kernel), gmem 915 (by decide +kernel), gmem 916 (by decide +kernel), gmem 79 (by decide +kernel), gmem 917 (by decide +kernel), by decide +kernel, by decide +kernel⟩
theorem lk_Lw_91 : gLkV "GoldSheetsLaw" 91 2 K_Mo_store := ⟨by decide +kernel, gmem 918 (by decide +kernel), gmem 919 (by decide +kernel), gmem 920 (by decide +kernel), gmem 79 (by decide +kernel), gmem 921 (by decide +kernel), by decide +kernel, by decide +kernel⟩
theorem lk_Mo_58 : gLkS "GoldSheetsModel" 58 1 K_Mo_isTone := ⟨by decide +kernel, Or.inl (gmem 922 (by decide +kernel)), gmem 923 (by decide +kernel), gmem 79 (by decide +kernel), gmem 924 (by decide +kernel), by decide +kernel, by decide +kernel⟩
theorem lk_Mo_32 : gLkS "GoldSheetsModel" 32 3 K_Mo_in := ⟨by decide +kernel, Or.inl (gmem 925 (by decide +kernel)), gmem 926 (by decide +kernel), gmem 79 (by decide +kernel), gmem 927 (by decide +kernel), by decide +kernel, by decide +kernel⟩
theorem lk_Mo_62 : gLkV "GoldSheetsModel" 62 0 K_Mo_save := ⟨by decide +kernel, gmem 928 (by decide +kernel), gmem 930 (by decide +kernel), gmem 27 (by decide +kernel), gmem 79 (by decide +kernel), gmem 931 (by decide +kernel), by decide +kernel, by decide +kernel⟩
theorem lk_Lw_97 : gLkV "GoldSheetsLaw" 97 2 K_Mo_cut := ⟨by decide +kernel, gmem 932 (by decide +kernel), gmem 933 (by decide +kernel), gmem 934 (by decide +kernel), gmem 79 (by decide +kernel), gmem 935 (by decide +kernel), by decide +kernel, by decide +kernel⟩
theorem lk_Mo_65 : gLkS "GoldSheetsModel" 65 1 K_Mo_isTray := ⟨by decide +kernel, Or.inl (gmem 936 (by decide +kernel)), gmem 937 (by decide +kernel), gmem 79 (by decide +kernel), gmem 938 (by decide +kernel), by decide +kernel, by decide +kernel⟩
theorem lk_Mo_47 : gLkV "GoldSheetsModel" 47 1 K_Mo_room := ⟨by decide +kernel, gmem 939 (by decide +kernel), gmem 941 (by decide +kernel), gmem 28 (by decide +kernel), gmem 79 (by decide +kernel), gmem 942 (by decide +kernel), by decide +kernel, by decide +kernel⟩
theorem lk_Mo_43 : gLkV "GoldSheetsModel" 43 1 K_Mo_inTray := ⟨by decide +kernel, gmem 943 (by decide +kernel), gmem 945 (by decide +kernel), gmem 29 (by decide +kernel), gmem 79 (by decide +kernel), gmem 946 (by decide +kernel), by decide +kernel, by decide +kernel⟩
theorem lk_Mo_39 : gLkV "GoldSheetsModel" 39 2 K_Mo_cubes := ⟨by decide +kernel, gmem 947 (by decide +kernel), gmem 949 (by decide +kernel), gmem 30 (by decide +kernel), gmem 79 (by decide +kernel), gmem 950 (by decide +kernel), by decide +kernel, by decide +kernel⟩
theorem lk_Lw_100 : gLkV "GoldSheetsLaw" 100 2 K_Mo_tip := ⟨by decide +kernel, gmem 951 (by decide +kernel), gmem 952 (by decide +kernel), gmem 953 (by decide +kernel), gmem 79 (by decide +kernel), gmem 954 (by decide +kernel), by decide +kernel, by decide +kernel⟩
theorem lk_Mo_54 : gLkV "GoldSheetsModel" 54 3 K_Mo_pour := ⟨by decide +kernel, gmem 955 (by decide +kernel), gmem 957 (by decide +kernel), gmem 31 (by decide +kernel), gmem 79 (by decide +kernel), gmem 958 (by decide +kernel), by decide +kernel, by decide +kernel⟩
theorem lk_Lw_104 : gLkV "GoldSheetsLaw" 104 1 K_Mo_sweep := ⟨by decide +kernel, gmem 959 (by decide +kernel), gmem 960 (by decide +kernel), gmem 961 (by decide +kernel), gmem 79 (by decide +kernel), gmem 962 (by decide +kernel), by decide +kernel, by decide +kernel⟩
theorem lk_Lw_108 : gLkV "GoldSheetsLaw" 108 3 K_Mo_section := ⟨by decide +kernel, gmem 963 (by decide +kernel), gmem 964 (by decide +kernel), gmem 965 (by decide +kernel), gmem 79 (by decide +kernel), gmem 966 (by decide +kernel), by decide +kernel, by decide +kernel⟩
theorem lk_Mo_72 : gLkV "GoldSheetsModel" 72 3 K_Mo_sectionAdded := ⟨by decide +kernel, gmem 967 (by decide +kernel), gmem 969 (by decide +kernel), gmem 32 (by decide +kernel), gmem 79 (by decide +kernel), gmem 970 (by decide +kernel), by decide +kernel, by decide +kernel⟩
theorem lk_Mo_68 : gLkV "GoldSheetsModel" 68 3 K_Mo_lay := ⟨by decide +kernel, gmem 971 (by decide +kernel), gmem 973 (by decide +kernel), gmem 33 (by decide +kernel), gmem 79 (by decide +kernel), gmem 974 (by decide +kernel), by decide +kernel, by decide +kernel⟩
theorem lk_Lw_111 : gLkV "GoldSheetsLaw" 111 1 K_Mo_drop := ⟨by decide +kernel, gmem 975 (by decide +kernel), gmem 976 (by decide +kernel), gmem 977 (by decide +kernel), gmem 79 (by decide +kernel), gmem 978 (by decide +kernel), by decide +kernel, by decide +kernel⟩
theorem lk_Mo_78 : gLkV "GoldSheetsModel" 78 1 K_Mo_placeOf := ⟨by decide +kernel, gmem 979 (by decide +kernel), gmem 981 (by decide +kernel), gmem 34 (by decide +kernel), gmem 79 (by decide +kernel), gmem 982 (by decide +kernel), by decide +kernel, by decide +kernel⟩
theorem lk_Mo_75 : gLkV "GoldSheetsModel" 75 2 K_Mo_its := ⟨by decide +kernel, gmem 983 (by decide +kernel), gmem 985 (by decide +kernel), gmem 35 (by decide +kernel), gmem 79 (by decide +kernel), gmem 986 (by decide +kernel), by decide +kernel, by decide +kernel⟩
theorem lk_Mo_81 : gLkV "GoldSheetsModel" 81 1 K_Mo_takeOut := ⟨by decide +kernel, gmem 987 (by decide +kernel), gmem 989 (by decide +kernel), gmem 36 (by decide +kernel), gmem 79 (by decide +kernel), gmem 990 (by decide +kernel), by decide +kernel, by decide +kernel⟩
theorem lk_Lw_114 : gLkV "GoldSheetsLaw" 114 2 K_Mo_set := ⟨by decide +kernel, gmem 991 (by decide +kernel), gmem 992 (by decide +kernel), gmem 993 (by decide +kernel), gmem 79 (by decide +kernel), gmem 994 (by decide +kernel), by decide +kernel, by decide +kernel⟩
theorem lk_Mo_85 : gLkS "GoldSheetsModel" 85 2 K_Mo_isValue := ⟨by decide +kernel, Or.inl (gmem 995 (by decide +kernel)), gmem 996 (by decide +kernel), gmem 79 (by decide +kernel), gmem 997 (by decide +kernel), by decide +kernel, by decide +kernel⟩
theorem lk_Lw_117 : gLkV "GoldSheetsLaw" 117 1 K_Mo_pass := ⟨by decide +kernel, gmem 998 (by decide +kernel), gmem 999 (by decide +kernel), gmem 1000 (by decide +kernel), gmem 79 (by decide +kernel), gmem 1001 (by decide +kernel), by decide +kernel, by decide +kernel⟩
theorem lk_Mo_126 : gLkV "GoldSheetsModel" 126 1 K_Mo_days := ⟨by decide +kernel, gmem 1002 (by decide +kernel), gmem 1004 (by decide +kernel), gmem 37 (by decide +kernel), gmem 79 (by decide +kernel), gmem 1005 (by decide +kernel), by decide +kernel, by decide +kernel⟩
theorem lk_Mo_123 : gLkV "GoldSheetsModel" 123 0 K_Mo_work := ⟨by decide +kernel, gmem 1006 (by decide +kernel), gmem 1008 (by decide +kernel), gmem 38 (by decide +kernel), gmem 79 (by decide +kernel), gmem 1009 (by decide +kernel), by decide +kernel, by decide +kernel⟩
theorem lk_Mo_95 : gLkV "GoldSheetsModel" 95 1 K_Mo_tonesIn := ⟨by decide +kernel, gmem 1010 (by decide +kernel), gmem 1012 (by decide +kernel), gmem 39 (by decide +kernel), gmem 79 (by decide +kernel), gmem 1013 (by decide +kernel), by decide +kernel, by decide +kernel⟩
theorem lk_Mo_111 : gLkV "GoldSheetsModel" 111 1 K_Mo_sort := ⟨by decide +kernel, gmem 1014 (by decide +kernel), gmem 1016 (by decide +kernel), gmem 40 (by decide +kernel), gmem 79 (by decide +kernel), gmem 1017 (by decide +kernel), by decide +kernel, by decide +kernel⟩
theorem lk_Mo_50 : gLkV "GoldSheetsModel" 50 0 K_Mo_emptyTray := ⟨by decide +kernel, gmem 1018 (by decide +kernel), gmem 1020 (by decide +kernel), gmem 41 (by decide +kernel), gmem 79 (by decide +kernel), gmem 1021 (by decide +kernel), by decide +kernel, by decide +kernel⟩
theorem lk_Mo_114 : gLkV "GoldSheetsModel" 114 0 K_Mo_layOrder := ⟨by decide +kernel, gmem 1022 (by decide +kernel), gmem 1024 (by decide +kernel), gmem 42 (by decide +kernel), gmem 79 (by decide +kernel), gmem 1025 (by decide +kernel), by decide +kernel, by decide +kernel⟩
theorem lk_Mo_89 : gLkV "GoldSheetsModel" 89 2 K_Mo_isAhead := ⟨by decide +kernel, gmem 1026 (by decide +kernel), gmem 1028 (by decide +kernel), gmem 43 (by decide +kernel), gmem 79 (by decide +kernel), gmem 1029 (by decide +kernel), by decide +kernel, by decide +kernel⟩
theorem lk_Mo_117 : gLkV "GoldSheetsModel" 117 1 K_Mo_workOn := ⟨by decide +kernel, gmem 1030 (by decide +kernel), gmem 1032 (by decide +kernel), gmem 44 (by decide +kernel), gmem 79 (by decide +kernel), gmem 1033 (by decide +kernel), by decide +kernel, by decide +kernel⟩
theorem lk_Mo_101 : gLkV "GoldSheetsModel" 101 2 K_Mo_inTrays := ⟨by decide +kernel, gmem 1034 (by decide +kernel), gmem 1036 (by decide +kernel), gmem 45 (by decide +kernel), gmem 79 (by decide +kernel), gmem 1037 (by decide +kernel), by decide +kernel, by decide +kernel⟩
theorem lk_Mo_108 : gLkV "GoldSheetsModel" 108 1 K_Mo_layCubes := ⟨by decide +kernel, gmem 1038 (by decide +kernel), gmem 1040 (by decide +kernel), gmem 46 (by decide +kernel), gmem 79 (by decide +kernel), gmem 1041 (by decide +kernel), by decide +kernel, by decide +kernel⟩
theorem lk_Mo_98 : gLkV "GoldSheetsModel" 98 1 K_Mo_takenFor := ⟨by decide +kernel, gmem 1042 (by decide +kernel), gmem 1044 (by decide +kernel), gmem 47 (by decide +kernel), gmem 79 (by decide +kernel), gmem 1045 (by decide +kernel), by decide +kernel, by decide +kernel⟩
theorem lk_Mo_92 : gLkV "GoldSheetsModel" 92 1 K_Mo_broken := ⟨by decide +kernel, gmem 1046 (by decide +kernel), gmem 1048 (by decide +kernel), gmem 48 (by decide +kernel), gmem 79 (by decide +kernel), gmem 1049 (by decide +kernel), by decide +kernel, by decide +kernel⟩
theorem lk_Mo_120 : gLkV "GoldSheetsModel" 120 0 K_Mo_endDone := ⟨by decide +kernel, gmem 1050 (by decide +kernel), gmem 1052 (by decide +kernel), gmem 49 (by decide +kernel), gmem 79 (by decide +kernel), gmem 1053 (by decide +kernel), by decide +kernel, by decide +kernel⟩
theorem lk_Lw_120 : gLkV "GoldSheetsLaw" 120 1 K_Mo_append := ⟨by decide +kernel, gmem 1054 (by decide +kernel), gmem 1055 (by decide +kernel), gmem 1056 (by decide +kernel), gmem 79 (by decide +kernel), gmem 1057 (by decide +kernel), by decide +kernel, by decide +kernel⟩
theorem lk_Lw_124 : gLkV "GoldSheetsLaw" 124 0 K_Mo_clearBuffer := ⟨by decide +kernel, gmem 1058 (by decide +kernel), gmem 1059 (by decide +kernel), gmem 1060 (by decide +kernel), gmem 79 (by decide +kernel), gmem 1061 (by decide +kernel), by decide +kernel, by decide +kernel⟩
theorem lk_Lw_128 : gLkV "GoldSheetsLaw" 128 0 K_Mo_firstError := ⟨by decide +kernel, gmem 1062 (by decide +kernel), gmem 1063 (by decide +kernel), gmem 1064 (by decide +kernel), gmem 79 (by decide +kernel), gmem 1065 (by decide +kernel), by decide +kernel, by decide +kernel⟩
theorem lk_Mo_154 : gLkV "GoldSheetsModel" 154 0 K_Mo_readBuffer := ⟨by decide +kernel, gmem 1066 (by decide +kernel), gmem 1068 (by decide +kernel), gmem 50 (by decide +kernel), gmem 79 (by decide +kernel), gmem 1069 (by decide +kernel), by decide +kernel, by decide +kernel⟩
theorem lk_Mo_151 : gLkV "GoldSheetsModel" 151 0 K_Mo_readPart := ⟨by decide +kernel, gmem 1070 (by decide +kernel), gmem 1072 (by decide +kernel), gmem 51 (by decide +kernel), gmem 79 (by decide +kernel), gmem 1073 (by decide +kernel), by decide +kernel, by decide +kernel⟩
theorem lk_Mo_148 : gLkV "GoldSheetsModel" 148 2 K_Mo_number := ⟨by decide +kernel, gmem 1074 (by decide +kernel), gmem 1076 (by decide +kernel), gmem 52 (by decide +kernel), gmem 79 (by decide +kernel), gmem 1077 (by decide +kernel), by decide +kernel, by decide +kernel⟩
theorem lk_Mo_138 : gLkV "GoldSheetsModel" 138 0 K_Mo_letter := ⟨by decide +kernel, gmem 1078 (by decide +kernel), gmem 1080 (by decide +kernel), gmem 53 (by decide +kernel), gmem 79 (by decide +kernel), gmem 1081 (by decide +kernel), by decide +kernel, by decide +kernel⟩
theorem lk_Mo_141 : gLkV "GoldSheetsModel" 141 1 K_Mo_wants := ⟨by decide +kernel, gmem 1082 (by decide +kernel), gmem 1084 (by decide +kernel), gmem 54 (by decide +kernel), gmem 79 (by decide +kernel), gmem 1085 (by decide +kernel), by decide +kernel, by decide +kernel⟩
theorem lk_Lw_132 : gLkV "GoldSheetsLaw" 132 0 K_Mo_addAll := ⟨by decide +kernel, gmem 1086 (by decide +kernel), gmem 1087 (by decide +kernel), gmem 1088 (by decide +kernel), gmem 79 (by decide +kernel), gmem 1089 (by decide +kernel), by decide +kernel, by decide +kernel⟩
theorem lk_Lw_138 : gLkV "GoldSheetsLaw" 138 2 K_Mo_tray := ⟨by decide +kernel, gmem 1090 (by decide +kernel), gmem 1091 (by decide +kernel), gmem 1092 (by decide +kernel), gmem 79 (by decide +kernel), gmem 1093 (by decide +kernel), by decide +kernel, by decide +kernel⟩
theorem lk_Lw_141 : gLkV "GoldSheetsLaw" 141 2 K_Mo_sectionOf := ⟨by decide +kernel, gmem 1094 (by decide +kernel), gmem 1095 (by decide +kernel), gmem 1096 (by decide +kernel), gmem 79 (by decide +kernel), gmem 1097 (by decide +kernel), by decide +kernel, by decide +kernel⟩
theorem lk_Mo_157 : gLkV "GoldSheetsModel" 157 2 K_Mo_toldSection := ⟨by decide +kernel, gmem 1098 (by decide +kernel), gmem 1100 (by decide +kernel), gmem 55 (by decide +kernel), gmem 79 (by decide +kernel), gmem 1101 (by decide +kernel), by decide +kernel, by decide +kernel⟩
theorem lk_Lw_144 : gLkV "GoldSheetsLaw" 144 2 K_Mo_tone := ⟨by decide +kernel, gmem 1102 (by decide +kernel), gmem 1103 (by decide +kernel), gmem 1104 (by decide +kernel), gmem 79 (by decide +kernel), gmem 1105 (by decide +kernel), by decide +kernel, by decide +kernel⟩
theorem lk_Mo_163 : gLkV "GoldSheetsModel" 163 2 K_Mo_toldTone := ⟨by decide +kernel, gmem 1106 (by decide +kernel), gmem 1108 (by decide +kernel), gmem 56 (by decide +kernel), gmem 79 (by decide +kernel), gmem 1109 (by decide +kernel), by decide +kernel, by decide +kernel⟩
theorem lk_Mo_160 : gLkV "GoldSheetsModel" 160 1 K_Mo_wanted := ⟨by decide +kernel, gmem 1110 (by decide +kernel), gmem 1112 (by decide +kernel), gmem 57 (by decide +kernel), gmem 79 (by decide +kernel), gmem 1113 (by decide +kernel), by decide +kernel, by decide +kernel⟩
theorem lk_Lw_147 : gLkV "GoldSheetsLaw" 147 1 K_Mo_count := ⟨by decide +kernel, gmem 1114 (by decide +kernel), gmem 1115 (by decide +kernel), gmem 1116 (by decide +kernel), gmem 79 (by decide +kernel), gmem 1117 (by decide +kernel), by decide +kernel, by decide +kernel⟩
theorem lk_Mo_173 : gLkV "GoldSheetsModel" 173 1 K_Mo_counted := ⟨by decide +kernel, gmem 1118 (by decide +kernel), gmem 1120 (by decide +kernel), gmem 58 (by decide +kernel), gmem 79 (by decide +kernel), gmem 1121 (by decide +kernel), by decide +kernel, by decide +kernel⟩
theorem lk_Mo_166 : gLkV "GoldSheetsModel" 166 1 K_Mo_trays := ⟨by decide +kernel, gmem 1122 (by decide +kernel), gmem 1124 (by decide +kernel), gmem 59 (by decide +kernel), gmem 79 (by decide +kernel), gmem 1125 (by decide +kernel), by decide +kernel, by decide +kernel⟩
theorem lk_Mo_170 : gLkV "GoldSheetsModel" 170 1 K_Mo_allOf := ⟨by decide +kernel, gmem 1126 (by decide +kernel), gmem 1128 (by decide +kernel), gmem 60 (by decide +kernel), gmem 79 (by decide +kernel), gmem 1129 (by decide +kernel), by decide +kernel, by decide +kernel⟩
theorem lk_Lw_150 : gLkV "GoldSheetsLaw" 150 1 K_Mo_setting := ⟨by decide +kernel, gmem 1130 (by decide +kernel), gmem 1131 (by decide +kernel), gmem 1132 (by decide +kernel), gmem 79 (by decide +kernel), gmem 1133 (by decide +kernel), by decide +kernel, by decide +kernel⟩
theorem lk_Lw_153 : gLkV "GoldSheetsLaw" 153 1 K_Mo_taken := ⟨by decide +kernel, gmem 1134 (by decide +kernel), gmem 1135 (by decide +kernel), gmem 1136 (by decide +kernel), gmem 79 (by decide +kernel), gmem 1137 (by decide +kernel), by decide +kernel, by decide +kernel⟩
theorem lk_Lw_156 : gLkV "GoldSheetsLaw" 156 1 K_Mo_missing := ⟨by decide +kernel, gmem 1138 (by decide +kernel), gmem 1139 (by decide +kernel), gmem 1140 (by decide +kernel), gmem 79 (by decide +kernel), gmem 1141 (by decide +kernel), by decide +kernel, by decide +kernel⟩
theorem lk_Mo_176 : gLkV "GoldSheetsModel" 176 1 K_Mo_lacks := ⟨by decide +kernel, gmem 1142 (by decide +kernel), gmem 1144 (by decide +kernel), gmem 61 (by decide +kernel), gmem 79 (by decide +kernel), gmem 1145 (by decide +kernel), by decide +kernel, by decide +kernel⟩
theorem lk_Lw_159 : gLkV "GoldSheetsLaw" 159 2 K_Mo_ifPassed := ⟨by decide +kernel, gmem 1146 (by decide +kernel), gmem 1147 (by decide +kernel), gmem 1148 (by decide +kernel), gmem 79 (by decide +kernel), gmem 1149 (by decide +kernel), by decide +kernel, by decide +kernel⟩
theorem lk_Mo_185 : gLkV "GoldSheetsModel" 185 2 K_Mo_wouldPass := ⟨by decide +kernel, gmem 1150 (by decide +kernel), gmem 1152 (by decide +kernel), gmem 62 (by decide +kernel), gmem 79 (by decide +kernel), gmem 1153 (by decide +kernel), by decide +kernel, by decide +kernel⟩
theorem lk_Mo_179 : gLkV "GoldSheetsModel" 179 0 K_Mo_putAside := ⟨by decide +kernel, gmem 1154 (by decide +kernel), gmem 1156 (by decide +kernel), gmem 63 (by decide +kernel), gmem 79 (by decide +kernel), gmem 1157 (by decide +kernel), by decide +kernel, by decide +kernel⟩
theorem lk_Mo_182 : gLkV "GoldSheetsModel" 182 0 K_Mo_bringBack := ⟨by decide +kernel, gmem 1158 (by decide +kernel), gmem 1160 (by decide +kernel), gmem 64 (by decide +kernel), gmem 79 (by decide +kernel), gmem 1161 (by decide +kernel), by decide +kernel, by decide +kernel⟩
theorem lk_Lw_162 : gLkV "GoldSheetsLaw" 162 1 K_Mo_doneIn := ⟨by decide +kernel, gmem 1162 (by decide +kernel), gmem 1163 (by decide +kernel), gmem 1164 (by decide +kernel), gmem 79 (by decide +kernel), gmem 1165 (by decide +kernel), by decide +kernel, by decide +kernel⟩
theorem lk_Mo_188 : gLkV "GoldSheetsModel" 188 1 K_Mo_daysTo := ⟨by decide +kernel, gmem 1166 (by decide +kernel), gmem 1168 (by decide +kernel), gmem 65 (by decide +kernel), gmem 79 (by decide +kernel), gmem 1169 (by decide +kernel), by decide +kernel, by decide +kernel⟩
theorem lk_Lw_165 : gLkV "GoldSheetsLaw" 165 1 K_Mo_bestOrder := ⟨by decide +kernel, gmem 1170 (by decide +kernel), gmem 1171 (by decide +kernel), gmem 1172 (by decide +kernel), gmem 79 (by decide +kernel), gmem 1173 (by decide +kernel), by decide +kernel, by decide +kernel⟩
theorem lk_Mo_191 : gLkV "GoldSheetsModel" 191 1 K_Mo_bestFor := ⟨by decide +kernel, gmem 1174 (by decide +kernel), gmem 1176 (by decide +kernel), gmem 66 (by decide +kernel), gmem 79 (by decide +kernel), gmem 1177 (by decide +kernel), by decide +kernel, by decide +kernel⟩
theorem lk_Lw_170 : gLkV "GoldSheetsLaw" 170 0 K_Mo_laidShare := ⟨by decide +kernel, gmem 1178 (by decide +kernel), gmem 1179 (by decide +kernel), gmem 1180 (by decide +kernel), gmem 79 (by decide +kernel), gmem 1181 (by decide +kernel), by decide +kernel, by decide +kernel⟩
theorem lk_Mo_194 : gLkV "GoldSheetsModel" 194 0 K_Mo_share := ⟨by decide +kernel, gmem 1182 (by decide +kernel), gmem 1184 (by decide +kernel), gmem 67 (by decide +kernel), gmem 79 (by decide +kernel), gmem 1185 (by decide +kernel), by decide +kernel, by decide +kernel⟩
theorem lk_Lw_175 : gLkV "GoldSheetsLaw" 175 0 K_Mo_digest := ⟨by decide +kernel, gmem 1186 (by decide +kernel), gmem 1187 (by decide +kernel), gmem 1188 (by decide +kernel), gmem 79 (by decide +kernel), gmem 1189 (by decide +kernel), by decide +kernel, by decide +kernel⟩
theorem lk_Mo_212 : gLkV "GoldSheetsModel" 212 1 K_Mo_mix := ⟨by decide +kernel, gmem 1191 (by decide +kernel), gmem 1193 (by decide +kernel), gmem 68 (by decide +kernel), gmem 79 (by decide +kernel), gmem 1194 (by decide +kernel), by decide +kernel, by decide +kernel⟩
theorem lk_Mo_218 : gLkV "GoldSheetsModel" 218 0 K_Mo_mixSections := ⟨by decide +kernel, gmem 1196 (by decide +kernel), gmem 1198 (by decide +kernel), gmem 69 (by decide +kernel), gmem 79 (by decide +kernel), gmem 1199 (by decide +kernel), by decide +kernel, by decide +kernel⟩
theorem lk_Mo_221 : gLkS "GoldSheetsModel" 221 1 K_Mo_bitsOf := ⟨by decide +kernel, Or.inl (gmem 1200 (by decide +kernel)), gmem 1201 (by decide +kernel), gmem 79 (by decide +kernel), gmem 1202 (by decide +kernel), by decide +kernel, by decide +kernel⟩
def gLc (o i : Nat) : Option Int64 := match o, i with
  | 5, 244 => some 3023
  | 5, 246 => some 31
  | 5, 317 => some 1023
  | 6, 216 => some 3023
  | 6, 206 => some 31
  | 6, 198 => some 1023
  | 6, 204 => some 4503599627370496
  | _, _ => none
def gDc (o i : Nat) : Option UInt64 := match o, i with
  | 5, 319 => some 4611686018427387904
  | 5, 321 => some 4841369599423283200
  | 6, 200 => some 4611686018427387904
  | 6, 202 => some 4841369599423283200
  | _, _ => none
theorem gLc_ok {o i : Nat} {x : Int64} (h : gLc o i = some x) : Cond.constantLong (gown o) i x ∈ gTs := by
  unfold gLc at h
  split at h
  · cases h; exact gmem 323 (by decide +kernel)
  · cases h; exact gmem 324 (by decide +kernel)
  · cases h; exact gmem 632 (by decide +kernel)
  · cases h; exact gmem 1190 (by decide +kernel)
  · cases h; exact gmem 1195 (by decide +kernel)
  · cases h; exact gmem 1203 (by decide +kernel)
  · cases h; exact gmem 1206 (by decide +kernel)
  · cases h
theorem gDc_ok {o i : Nat} {x : UInt64} (h : gDc o i = some x) : Cond.constantDouble (gown o) i x ∈ gTs := by
  unfold gDc at h
  split at h
  · cases h; exact gmem 633 (by decide +kernel)
  · cases h; exact gmem 634 (by decide +kernel)
  · cases h; exact gmem 1204 (by decide +kernel)
  · cases h; exact gmem 1205 (by decide +kernel)
  · cases h
/-- the written texts: class, pool index, text -/
def gStr : List (String × Nat × String) := [("GoldSheets", 227, "there is no such number"), ("GoldSheets", 313, "there is none of this number"), ("GoldSheets", 187, "a place is not below 0"), ("GoldSheets", 315, "a value is out of range"), ("GoldSheets", 207, "a tone has no such number"), ("GoldSheets", 54, "the store would have too many sheets"), ("GoldSheets", 67, "the store has no sheet of the tone"), ("GoldSheets", 75, "both trays are the same"), ("GoldSheets", 95, "there are as many sections as there may be"), ("GoldSheets", 310, "there is no such section"), ("GoldSheets", 113, "not every cube can break"), ("GoldSheets", 121, "the day would be above the last one"), ("GoldSheets", 136, "the buffer is full"), ("GoldSheets", 153, "the buffer is not complete sections as a text"), ("GoldSheets", 158, "there would be too many sections"), ("GoldSheets", 170, "there is no saved state")]
theorem gStr_in : ∀ q ∈ gStr, Cond.stringRef q.1 q.2.1 q.2.2 ∈ lw_tbl := by
  unfold gStr
  exact List.forall_mem_cons.mpr ⟨List.mem_of_getElem? (i := 382) (by decide +kernel), List.forall_mem_cons.mpr ⟨List.mem_of_getElem? (i := 425) (by decide +kernel), List.forall_mem_cons.mpr ⟨List.mem_of_getElem? (i := 574) (by decide +kernel), List.forall_mem_cons.mpr ⟨List.mem_of_getElem? (i := 578) (by decide +kernel), List.forall_mem_cons.mpr ⟨List.mem_of_getElem? (i := 596) (by decide +kernel), List.forall_mem_cons.mpr ⟨List.mem_of_getElem? (i := 658) (by decide +kernel), List.forall_mem_cons.mpr ⟨List.mem_of_getElem? (i := 686) (by decide +kernel), List.forall_mem_cons.mpr ⟨List.mem_of_getElem? (i := 707) (by decide +kernel), List.forall_mem_cons.mpr ⟨List.mem_of_getElem? (i := 735) (by decide +kernel), List.forall_mem_cons.mpr ⟨List.mem_of_getElem? (i := 755) (by decide +kernel), List.forall_mem_cons.mpr ⟨List.mem_of_getElem? (i := 771) (by decide +kernel), List.forall_mem_cons.mpr ⟨List.mem_of_getElem? (i := 779) (by decide +kernel), List.forall_mem_cons.mpr ⟨List.mem_of_getElem? (i := 787) (by decide +kernel), List.forall_mem_cons.mpr ⟨List.mem_of_getElem? (i := 804) (by decide +kernel), List.forall_mem_cons.mpr ⟨List.mem_of_getElem? (i := 805) (by decide +kernel), List.forall_mem_cons.mpr ⟨List.mem_of_getElem? (i := 813) (by decide +kernel), fun _ h => absurd h List.not_mem_nil⟩⟩⟩⟩⟩⟩⟩⟩⟩⟩⟩⟩⟩⟩⟩⟩
end
section
/-! AN ABSTRACT MACHINE over small heaps: cells are numbered from 0, a reference is a cell's number (1000 + j: an outer array of ints that nobody writes). gst runs one instruction, grun a row of them; gW says: from here the method comes to an end of which E holds. -/
abbrev gL : Type := List (Nat × Value)
/-- ints, longs, references, an object -/
abbrev gC : Type := (Nat × (Nat → Int32)) ⊕ (Nat × (Nat → Int64)) ⊕ (List (Option Nat)) ⊕ (Nat × List Value)
abbrev gH : Type := List gC
abbrev gG : Type := va_G × ClassId × ClassId × ClassId
abbrev cI (n : Nat) (f : Nat → Int32) : gC := .inl (n, f)
abbrev cJ (n : Nat) (f : Nat → Int64) : gC := .inr (.inl (n, f))
abbrev cR (xs : List (Option Nat)) : gC := .inr (.inr (.inl xs))
abbrev cO (ci : Nat) (fs : List Value) : gC := .inr (.inr (.inr (ci, fs)))
def gmv (ad : Nat → Nat) (v : Value) : Value := match v with
  | .ref k => .ref (ad k)
  | v => v
def gmc (G : gG) (ad : Nat → Nat) (e : gC) : va_E := match e with
  | .inl (n, f) => .inl (G.2.1, n, .inl f)
  | .inr (.inl (n, f)) => .inl (G.2.2.1, n, .inr (.inl f))
  | .inr (.inr (.inl xs)) => .inl (G.2.2.2, xs.length, .inr (.inr (.inr (.inr fun i => (xs.getD i none).map ad))))
  | .inr (.inr (.inr (ci, fs))) => .inr (ci, fs.map (gmv ad))
def gmw (G : gG) (ad : Nat → Nat) (h : gH) : va_W := h.mapIdx fun k e => (ad k, gmc G ad e)
def gml (ad : Nat → Nat) (l : gL) : gL := l.map fun q => (q.1, gmv ad q.2)
abbrev gTys (G : gG) : List (ClassId × FieldType) := [(G.2.1, .int), (G.2.2.1, .long), (G.2.2.2, .object "GoldSheets$Dome")]
theorem gmw_at (G : gG) (ad : Nat → Nat) (h : gH) (k : Nat) : (gmw G ad h)[k]? = (h[k]?).map fun e => (ad k, gmc G ad e) := by
  unfold gmw
  rw [List.getElem?_mapIdx]
theorem gmw_len (G : gG) (ad : Nat → Nat) (h : gH) : (gmw G ad h).length = h.length := by
  unfold gmw
  exact List.length_mapIdx
theorem gmw_set (G : gG) (ad : Nat → Nat) (h : gH) (k : Nat) (e : gC) : (gmw G ad h).set k (ad k, gmc G ad e) = gmw G ad (h.set k e) := by
  apply List.ext_getElem?
  intro j
  rw [gmw_at, List.getElem?_set, List.getElem?_set, gmw_len, gmw_at]
  by_cases hk : k = j
  · subst hk
    by_cases hl : k < h.length
    · simp [hl]
    · simp [hl]
  · simp [hk]
theorem gmv_cat (ad : Nat → Nat) (v : Value) : (gmv ad v).category = v.category := by cases v <;> rfl
theorem gml_mem {ad : Nat → Nat} {l : gL} {q : Nat × Value} (h : q ∈ l) : (q.1, gmv ad q.2) ∈ gml ad l := List.mem_map_of_mem (f := fun q => (q.1, gmv ad q.2)) h
/-- the outer arrays: 0 the script, 1 to 3 the class's own constant rows -/
def gx (sc : Nat × (Nat → Int32)) (j : Nat) : Nat × (Nat → Int32) := match j with
  | 0 => sc
  | 1 => (6, fun i => ([50, 120, 0, 2, 30, 10] : List Int32).getD i 0)
  | 2 => (6, fun i => ([1, 10, 0, 0, 1, 0] : List Int32).getD i 0)
  | _ => (6, fun i => ([200, 500, 1, 9, 99, 99] : List Int32).getD i 0)
def gsn (j : Nat) : String := match j with
  | 1 => "FIRST_SETTINGS"
  | 2 => "LOWEST_SETTINGS"
  | _ => "HIGHEST_SETTINGS"
/-- what holds around every method: the constants' cells, which it doesn't write -/
def gAmb (sc : Nat × (Nat → Int32)) (ad : Nat → Nat) (A : Nat → Prop) (U : State) : Prop :=
  (vx_Zq Bundle.tN "UNASSIGNED_STACK" Bundle.steD A U U.heap ∧ vx_Zq Bundle.tN "SUPPRESSED_SENTINEL" Bundle.listD A U U.heap) ∧
  (∀ j, j < 4 → va_T .int (ad (1000 + j)) (gx sc j).1 (fun i => .int ((gx sc j).2 i)) A U U.heap) ∧
  (∀ j, 1 ≤ j → j < 4 → va_Z "GoldSheets" (gsn j) "[I" (.ref (ad (1000 + j))) A U U.heap) ∧
  (∀ q ∈ gStr, ∃ a, vk_R q.1 q.2.1 q.2.2 a U) ∧ (∀ w ∈ gNs, va_Nw w U)
theorem gAmb.to {sc : Nat × (Nat → Int32)} {ad ad' : Nat → Nat} {A B : Nat → Prop} {u U : State} (h : gAmb sc ad A u) (hW : u.WarmedH U.vm) (hq : ∀ a : Nat, a < u.heap.size → ¬ A a → U.heap[a]? = u.heap[a]?) (hAB : ∀ q, B q → A q) (had : ∀ j, j < 4 → ad' (1000 + j) = ad (1000 + j)) : gAmb sc ad' B U := by
  obtain ⟨⟨h1, h2⟩, h3, h4, h5, h6⟩ := h
  refine ⟨⟨((vx_Zq.moved hW.alike h1).kept hq).narrow hAB, ((vx_Zq.moved hW.alike h2).kept hq).narrow hAB⟩, fun j hj => ?_, fun j hj1 hj => ?_, fun q hm => ?_, gNs_warm hW h6⟩
  · rw [had j hj]
    exact ((va_T.moved hW.alike (h3 j hj)).kept hq).narrow hAB
  · rw [had j hj]
    exact ((va_Z.moved hW.alike (h4 j hj1 hj)).kept hq).narrow hAB
  · obtain ⟨a, ha⟩ := h5 q hm
    exact ⟨a, ha.warm hW⟩
/-- the fixed surroundings of a method's frame -/
def gCtx (K : gK) (G : gG) (sc : Nat × (Nat → Int32)) (ad : Nat → Nat) (A : Nat → Prop) (p : Program) (la : Launch) (s : State) (m : MethodId) (args : Array Value) (meth : Method) (c : Code) : Prop :=
  p.tables.exec = Jvm.exec ∧ c.code = K.2.2.1 ∧ c.maxLocals = K.2.2.2.1 ∧ s.vm.findClass (gown K.1) = some m.cls ∧ (∀ w ∈ gTs, w.before args s = true) ∧ va_K G.1 gcl (gTys G) s ∧ gAmb sc ad A s ∧
  (∀ q, s.heap.size ≤ q → A q) ∧ la.stackTraces = false ∧ meth.locks = false ∧ meth.sig.returnType = K.2.2.2.2.1 ∧ meth.name = K.2.1.name ∧ c.exceptionTable.toList = tableOf K.2.2.2.2.2
/-- how a method ends: it returns, or throws an exception of a class -/
abbrev gO : Type := Option Value ⊕ String
def gQ (G : gG) (ad : Nat → Nat) (n0 : Nat) (A : Nat → Prop) (E : gO → gH → Prop) : Array Value → State → Outcome → State → Prop := fun _ st oc t =>
  (∃ (ad' : Nat → Nat) (v : Option Value) (h' : gH), oc = .returned (v.map (gmv ad')) ∧ E (.inl v) h' ∧ n0 ≤ h'.length ∧ (∀ k, (k < n0 ∨ 1000 ≤ k) → ad' k = ad k) ∧ va_P G.1 gcl (gmw G ad' h') t.heap ∧ va_D A (gmw G ad' h')) ∧ va_F A st t
def gXC (G : gG) (ad : Nat → Nat) (n0 : Nat) (A : Nat → Prop) (E : gO → gH → Prop) : String → State → State → Prop := fun X st t =>
  (∃ h' : gH, E (.inr X) h' ∧ h'.length = n0 ∧ va_P G.1 gcl (gmw G ad h') t.heap ∧ va_D A (gmw G ad h')) ∧ va_F A st t
/-- from this point the frame comes to an end of which E holds -/
def gW (K : gK) (sc : Nat × (Nat → Int32)) (R : Room) (n0 : Nat) (E : gO → gH → Prop) (cs ss pc : Nat) (l : gL) (st : List Value) (h : gH) : Prop :=
  ∀ (p : Program) (la : Launch) (e : Env) (s : State) (m : MethodId) (args : Array Value) (below : List Frame) (meth : Method) (c : Code) (G : gG) (ad0 : Nat → Nat) (A : Nat → Prop), gCtx K G sc ad0 A p la s m args meth c →
  ∀ (H : Heap) (locs : List Loc) (ad : Nat → Nat) (ls : Array Slot), (∀ k, (k < n0 ∨ 1000 ≤ k) → ad k = ad0 k) → lv_has ls K.2.2.2.1 (gml ad l) → va_P G.1 gcl (gmw G ad h) H → va_D A (gmw G ad h) → va_S A s.heap H locs →
  W p la e R s m args below meth c H locs cs ss (vx_MQ below (gQ G ad0 n0 A E) (gXC G ad0 n0 A E) args s R.cells R.slots A) (F0 m pc ls (st.map (gmv ad)))
/-- the contract: y called with as over the cells h ends so that E holds -/
def gM (K : gK) (R : Room) (as : List Value) (h : gH) (E : gO → gH → Prop) : Prop :=
  ∀ (la : Launch), la.stackTraces = false → ∀ (G : gG) (sc : Nat × (Nat → Int32)) (ad : Nat → Nat) (sz : Nat),
  vx_Met la K.2.1 (gwd K :: gTs) R (va_Pc (as.map (gmv ad)) (fun U => U.heap.size = sz ∧ va_P G.1 gcl (gmw G ad h) U.heap ∧ va_K G.1 gcl (gTys G) U ∧ va_D (fun _ => True) (gmw G ad h) ∧ gAmb sc ad (va_A (gmw G ad h) sz) U))
    (gQ G ad h.length (va_A (gmw G ad h) sz) E) (gXC G ad h.length (va_A (gmw G ad h) sz) E) R.cells R.slots (va_A (gmw G ad h) sz)
/-! locals -/
def gget (l : gL) (i : Nat) : Option Value := match l with
  | [] => none
  | q :: r => cond (Nat.beq q.1 i) (some q.2) (gget r i)
def gins (i : Nat) (v : Value) (l : gL) : gL := match l with
  | [] => [(i, v)]
  | q :: r => cond (Nat.ble i q.1) ((i, v) :: q :: r) (q :: gins i v r)
def gput1 (l : gL) (i : Nat) (v : Value) : gL := gins i v (l.filter fun q => !(q.1 == i) && !(q.1 + 1 == i && q.2.category == 2))
def gput2 (l : gL) (i : Nat) (v : Value) : gL := gins i v (l.filter fun q => !(q.1 == i) && (!(q.1 == i + 1) && !(q.1 + 1 == i && q.2.category == 2)))
theorem gget_mem {i : Nat} {v : Value} : ∀ {l : gL}, gget l i = some v → (i, v) ∈ l
  | [], h => nomatch h
  | q :: r, h => by
    unfold gget at h
    cases hb : Nat.beq q.1 i with
    | true =>
      rw [hb] at h
      have h1 : q.2 = v := Option.some.inj h
      have h2 : q.1 = i := Nat.eq_of_beq_eq_true hb
      rw [← h1, ← h2]
      exact List.mem_cons_self
    | false =>
      rw [hb] at h
      exact List.mem_cons_of_mem _ (gget_mem h)
theorem gins_mem {i : Nat} {v : Value} {x : Nat × Value} : ∀ {l : gL}, x ∈ gins i v l → x = (i, v) ∨ x ∈ l
  | [], h => Or.inl (List.mem_singleton.mp h)
  | q :: r, h => by
    unfold gins at h
    cases hb : Nat.ble i q.1 with
    | true =>
      rw [hb] at h
      exact List.mem_cons.mp h
    | false =>
      rw [hb] at h
      rcases List.mem_cons.mp h with h | h
      · exact Or.inr (h ▸ List.mem_cons_self)
      · rcases gins_mem h with h | h
        · exact Or.inl h
        · exact Or.inr (List.mem_cons_of_mem _ h)
theorem gget_at {ad : Nat → Nat} {ls : Array Slot} {nL : Nat} {l : gL} {i : Nat} {v : Value} (hl : lv_has ls nL (gml ad l)) (h : gget l i = some v) : ls[i]? = some (.val (gmv ad v)) := hl.2.2 (i, gmv ad v) (gml_mem (gget_mem h))
theorem gput1_has {ad : Nat → Nat} {ls : Array Slot} {nL : Nat} {l : gL} {i : Nat} {v : Value} (h : lv_has ls nL ((i, gmv ad v) :: (gml ad l).filter fun q => !(q.1 == i) && !(q.1 + 1 == i && q.2.category == 2))) : lv_has ls nL (gml ad (gput1 l i v)) := by
  refine ⟨h.1, h.2.1, fun q hq => ?_⟩
  obtain ⟨x, hx, rfl⟩ := List.mem_map.mp hq
  rcases gins_mem hx with rfl | hx
  · exact h.2.2 _ List.mem_cons_self
  · obtain ⟨h1, h2⟩ := List.mem_filter.mp hx
    refine h.2.2 (x.1, gmv ad x.2) (List.mem_cons_of_mem _ (List.mem_filter.mpr ⟨gml_mem h1, ?_⟩))
    rw [gmv_cat]
    exact h2
theorem gput2_has {ad : Nat → Nat} {ls : Array Slot} {nL : Nat} {l : gL} {i : Nat} {v : Value} (h : lv_has ls nL ((i, gmv ad v) :: (gml ad l).filter fun q => !(q.1 == i) && (!(q.1 == i + 1) && !(q.1 + 1 == i && q.2.category == 2)))) : lv_has ls nL (gml ad (gput2 l i v)) := by
  refine ⟨h.1, h.2.1, fun q hq => ?_⟩
  obtain ⟨x, hx, rfl⟩ := List.mem_map.mp hq
  rcases gins_mem hx with rfl | hx
  · exact h.2.2 _ List.mem_cons_self
  · obtain ⟨h1, h2⟩ := List.mem_filter.mp hx
    refine h.2.2 (x.1, gmv ad x.2) (List.mem_cons_of_mem _ (List.mem_filter.mpr ⟨gml_mem h1, ?_⟩))
    rw [gmv_cat]
    exact h2
/-! one instruction -/
abbrev gSt : Type := Nat × gL × List Value × gH × Option Prop
def gfit (ty : FieldType) (v : Value) : Bool := match ty, v with
  | .int, .int _ => true
  | .long, .long _ => true
  | .object _, .ref _ => true
  | .array _, .ref _ => true
  | _, _ => false
def gSs (o i : Nat) : Option Nat := match o, i with
  | 2, 41 => some 1
  | 5, 107 => some 2
  | 5, 110 => some 3
  | _, _ => none
def gi2 (f : Int32 → Int32 → Int32) (pc : Nat) (l : gL) (st : List Value) (h : gH) : Option gSt := match st with
  | .int y :: .int x :: r => some (pc, l, .int (f x y) :: r, h, none)
  | _ => none
def gl2 (f : Int64 → Int64 → Int64) (pc : Nat) (l : gL) (st : List Value) (h : gH) : Option gSt := match st with
  | .long y :: .long x :: r => some (pc, l, .long (f x y) :: r, h, none)
  | _ => none
def gd2 (f : UInt64 → UInt64 → UInt64) (pc : Nat) (l : gL) (st : List Value) (h : gH) : Option gSt := match st with
  | .double y :: .double x :: r => some (pc, l, .double (f x y) :: r, h, some (vf_n64 (f x y)))
  | _ => none
def gldI (l : gL) (i pc : Nat) (st : List Value) (h : gH) : Option gSt := match gget l i with
  | some (.int x) => some (pc, l, .int x :: st, h, none)
  | _ => none
def gldJ (l : gL) (i pc : Nat) (st : List Value) (h : gH) : Option gSt := match gget l i with
  | some (.long x) => some (pc, l, .long x :: st, h, none)
  | _ => none
def gldD (l : gL) (i pc : Nat) (st : List Value) (h : gH) : Option gSt := match gget l i with
  | some (.double x) => some (pc, l, .double x :: st, h, none)
  | _ => none
def gldA (l : gL) (i pc : Nat) (st : List Value) (h : gH) : Option gSt := match gget l i with
  | some (.ref x) => some (pc, l, .ref x :: st, h, none)
  | _ => none
def gstI (nL : Nat) (l : gL) (i pc : Nat) (st : List Value) (h : gH) : Option gSt := match st with
  | .int x :: r => cond (Nat.blt i nL) (some (pc, gput1 l i (.int x), r, h, none)) none
  | _ => none
def gstJ (nL : Nat) (l : gL) (i pc : Nat) (st : List Value) (h : gH) : Option gSt := match st with
  | .long x :: r => cond (Nat.blt (i + 1) nL) (some (pc, gput2 l i (.long x), r, h, none)) none
  | _ => none
def gstD (nL : Nat) (l : gL) (i pc : Nat) (st : List Value) (h : gH) : Option gSt := match st with
  | .double x :: r => cond (Nat.blt (i + 1) nL) (some (pc, gput2 l i (.double x), r, h, none)) none
  | _ => none
def gstA (nL : Nat) (l : gL) (i pc : Nat) (st : List Value) (h : gH) : Option gSt := match st with
  | .ref x :: r => cond (Nat.blt i nL) (some (pc, gput1 l i (.ref x), r, h, none)) none
  | _ => none
def ggf (o i pc : Nat) (l : gL) (st : List Value) (h : gH) : Option gSt := match st with
  | .ref a :: r => match gfind i (gFl o) with
    | some (ci, k) => match h[a]? with
      | some (.inr (.inr (.inr (cj, fs)))) => cond (Nat.beq ci cj) (match fs[k]? with | some v => some (pc, l, v :: r, h, none) | none => none) none
      | _ => none
    | none => none
  | _ => none
def gpf (K : gK) (i pc : Nat) (l : gL) (st : List Value) (h : gH) : Option gSt := match st with
  | v :: .ref a :: r => match gfind i (gFl K.1) with
    | some (ci, k) => match h[a]? with
      | some (.inr (.inr (.inr (cj, fs)))) => cond (Nat.beq ci cj && (gfit (gyt ci k) v && Nat.blt k fs.length)) (cond (gTt ci k).2.2.2 (some (pc, l, r, h.set a (cO cj (fs.set k v)), some (K.2.1.name = "<init>" ∧ K.1 = ci))) (some (pc, l, r, h.set a (cO cj (fs.set k v)), none))) none
      | _ => none
    | none => none
  | _ => none
def gal (sc : Nat × (Nat → Int32)) (pc : Nat) (l : gL) (st : List Value) (h : gH) : Option gSt := match st with
  | .int i :: .ref a :: r => cond (Nat.ble 1000 a) (cond (Nat.blt a 1004) (some (pc, l, .int ((gx sc (a - 1000)).2 i.toNatClampNeg) :: r, h, some (vp_in i (gx sc (a - 1000)).1))) none) (match h[a]? with
    | some (.inl (n, f)) => some (pc, l, .int (f i.toNatClampNeg) :: r, h, some (vp_in i n))
    | _ => none)
  | _ => none
def glal (pc : Nat) (l : gL) (st : List Value) (h : gH) : Option gSt := match st with
  | .int i :: .ref a :: r => match h[a]? with
    | some (.inr (.inl (n, f))) => some (pc, l, .long (f i.toNatClampNeg) :: r, h, some (vp_in i n))
    | _ => none
  | _ => none
def graal (pc : Nat) (l : gL) (st : List Value) (h : gH) : Option gSt := match st with
  | .int i :: .ref a :: r => match h[a]? with
    | some (.inr (.inr (.inl xs))) => some (pc, l, va_rf (xs.getD i.toNatClampNeg none) :: r, h, some (vp_in i xs.length))
    | _ => none
  | _ => none
def gas (pc : Nat) (l : gL) (st : List Value) (h : gH) : Option gSt := match st with
  | .int x :: .int i :: .ref a :: r => match h[a]? with
    | some (.inl (n, f)) => some (pc, l, r, h.set a (cI n (upd f i.toNatClampNeg x)), some (vp_in i n))
    | _ => none
  | _ => none
def glas (pc : Nat) (l : gL) (st : List Value) (h : gH) : Option gSt := match st with
  | .long x :: .int i :: .ref a :: r => match h[a]? with
    | some (.inr (.inl (n, f))) => some (pc, l, r, h.set a (cJ n (vp_updL f i.toNatClampNeg x)), some (vp_in i n))
    | _ => none
  | _ => none
def graas (pc : Nat) (l : gL) (st : List Value) (h : gH) : Option gSt := match st with
  | .ref v :: .int i :: .ref a :: r => match h[a]?, h[v]? with
    | some (.inr (.inr (.inl xs))), some (.inr (.inr (.inr (2, _)))) => some (pc, l, r, h.set a (cR (xs.set i.toNatClampNeg (some v))), some (vp_in i xs.length))
    | _, _ => none
  | _ => none
def galen (sc : Nat × (Nat → Int32)) (pc : Nat) (l : gL) (st : List Value) (h : gH) : Option gSt := match st with
  | .ref a :: r => cond (Nat.ble 1000 a) (cond (Nat.blt a 1004) (some (pc, l, .int (Int32.ofNat (gx sc (a - 1000)).1) :: r, h, none)) none) (match h[a]? with
    | some (.inl (n, _)) => some (pc, l, .int (Int32.ofNat n) :: r, h, none)
    | some (.inr (.inl (n, _))) => some (pc, l, .int (Int32.ofNat n) :: r, h, none)
    | some (.inr (.inr (.inl xs))) => some (pc, l, .int (Int32.ofNat xs.length) :: r, h, none)
    | _ => none)
  | _ => none
def gst (K : gK) (sc : Nat × (Nat → Int32)) (i : Instr) (pc : Nat) (l : gL) (st : List Value) (h : gH) : Option gSt := match i with
  | .iconst n => some (pc + 1, l, .int (Int32.ofInt n) :: st, h, none)
  | .bipush n => some (pc + 2, l, .int (Int8.ofInt n).toInt32 :: st, h, none)
  | .sipush n => some (pc + 3, l, .int (Int16.ofInt n).toInt32 :: st, h, none)
  | .lconst n => some (pc + 1, l, .long (Int64.ofNat n.val) :: st, h, none)
  | .dconst n => some (pc + 1, l, .double (match n.val with | 0 => FP.dconst0 | _ => FP.dconst1) :: st, h, none)
  | .aconst_null => some (pc + 1, l, .null :: st, h, none)
  | .ldc2_w k => match gLc K.1 k with
    | some x => some (pc + 3, l, .long x :: st, h, none)
    | none => match gDc K.1 k with
      | some x => some (pc + 3, l, .double x :: st, h, none)
      | none => none
  | .iload n => gldI l n (pc + 2) st h
  | .iload_n n => gldI l n.val (pc + 1) st h
  | .lload n => gldJ l n (pc + 2) st h
  | .lload_n n => gldJ l n.val (pc + 1) st h
  | .dload n => gldD l n (pc + 2) st h
  | .dload_n n => gldD l n.val (pc + 1) st h
  | .aload n => gldA l n (pc + 2) st h
  | .aload_n n => gldA l n.val (pc + 1) st h
  | .istore n => gstI K.2.2.2.1 l n (pc + 2) st h
  | .istore_n n => gstI K.2.2.2.1 l n.val (pc + 1) st h
  | .lstore n => gstJ K.2.2.2.1 l n (pc + 2) st h
  | .lstore_n n => gstJ K.2.2.2.1 l n.val (pc + 1) st h
  | .dstore n => gstD K.2.2.2.1 l n (pc + 2) st h
  | .dstore_n n => gstD K.2.2.2.1 l n.val (pc + 1) st h
  | .astore n => gstA K.2.2.2.1 l n (pc + 2) st h
  | .astore_n n => gstA K.2.2.2.1 l n.val (pc + 1) st h
  | .iinc n d => match gget l n with
    | some (.int x) => cond (Nat.blt n K.2.2.2.1) (some (pc + 3, gput1 l n (.int (x + Int32.ofInt d)), st, h, none)) none
    | _ => none
  | .pop => match st with
    | v :: r => cond (Nat.beq v.category 1) (some (pc + 1, l, r, h, none)) none
    | _ => none
  | .dup => match st with
    | v :: r => cond (Nat.beq v.category 1) (some (pc + 1, l, v :: v :: r, h, none)) none
    | _ => none
  | .dup2 => match st with
    | v :: w :: r => cond (Nat.beq v.category 1 && Nat.beq w.category 1) (some (pc + 1, l, v :: w :: v :: w :: r, h, none)) none
    | _ => none
  | .iadd => gi2 (fun x y => x + y) (pc + 1) l st h
  | .isub => gi2 (fun x y => x - y) (pc + 1) l st h
  | .imul => gi2 (fun x y => x * y) (pc + 1) l st h
  | .iand => gi2 (fun x y => x &&& y) (pc + 1) l st h
  | .idiv => match st with
    | .int y :: .int x :: r => some (pc + 1, l, .int (x / y) :: r, h, some (¬ y = 0))
    | _ => none
  | .ineg => match st with
    | .int x :: r => some (pc + 1, l, .int (-x) :: r, h, none)
    | _ => none
  | .ladd => gl2 (fun x y => x + y) (pc + 1) l st h
  | .lsub => gl2 (fun x y => x - y) (pc + 1) l st h
  | .lmul => gl2 (fun x y => x * y) (pc + 1) l st h
  | .lshl => match st with
    | .int y :: .long x :: r => some (pc + 1, l, .long (x <<< (y.toInt64 &&& 63)) :: r, h, none)
    | _ => none
  | .lcmp => match st with
    | .long y :: .long x :: r => some (pc + 1, l, .int (lg_cmp x y) :: r, h, none)
    | _ => none
  | .i2l => match st with
    | .int x :: r => some (pc + 1, l, .long x.toInt64 :: r, h, none)
    | _ => none
  | .i2d => match st with
    | .int x :: r => some (pc + 1, l, .double (FP.i2d x) :: r, h, none)
    | _ => none
  | .d2l => match st with
    | .double x :: r => some (pc + 1, l, .long (FP.d2l x) :: r, h, none)
    | _ => none
  | .dmul => gd2 FP.dmul (pc + 1) l st h
  | .dsub => gd2 FP.dsub (pc + 1) l st h
  | .ddiv => gd2 FP.ddiv (pc + 1) l st h
  | .dcmp op => match st with
    | .double y :: .double x :: r => some (pc + 1, l, .int (Op.cmpValue (FP.dcmp x y) op) :: r, h, none)
    | _ => none
  | .getstatic k => match gSs K.1 k with
    | some j => some (pc + 3, l, .ref (1000 + j) :: st, h, none)
    | none => none
  | .getfield k => ggf K.1 k (pc + 3) l st h
  | .putfield k => gpf K k (pc + 3) l st h
  | .iaload => gal sc (pc + 1) l st h
  | .laload => glal (pc + 1) l st h
  | .aaload => graal (pc + 1) l st h
  | .iastore => gas (pc + 1) l st h
  | .lastore => glas (pc + 1) l st h
  | .aastore => graas (pc + 1) l st h
  | .arraylength => galen sc (pc + 1) l st h
  | .goto d => match (pc : Int) + d with
    | .ofNat t => some (t, l, st, h, none)
    | _ => none
  | _ => none
def glen (i : Instr) : Nat := match i with
  | .ifCond .. => 3
  | .if_icmp .. => 3
  | .ifnull .. => 3
  | .invokevirtual .. => 3
  | .invokestatic .. => 3
  | .invokespecial .. => 3
  | .new .. => 3
  | .anewarray .. => 3
  | .newarray .. => 2
  | .ldc .. => 2
  | .ldc_w .. => 3
  | .bipush .. => 2
  | .sipush .. => 3
  | .ldc2_w .. => 3
  | .iinc .. => 3
  | .getstatic .. => 3
  | .getfield .. => 3
  | .putfield .. => 3
  | .goto .. => 3
  | .iload .. => 2
  | .lload .. => 2
  | .dload .. => 2
  | .aload .. => 2
  | .istore .. => 2
  | .lstore .. => 2
  | .dstore .. => 2
  | .astore .. => 2
  | _ => 1
def gpr (P : Option Prop) : Prop := match P with
  | none => True
  | some q => q
/-- a row of instructions -/
def gand (P : Option Prop) (Q : Prop) : Prop := match P with
  | none => Q
  | some q => q ∧ Q
def grun (K : gK) (sc : Nat × (Nat → Int32)) : List (Nat × Instr) → Nat → gL → List Value → gH → Option (Nat × gL × List Value × gH × Prop)
  | [], pc, l, st, h => some (pc, l, st, h, True)
  | q :: r, pc, l, st, h => cond (Nat.beq q.1 pc) (match gst K sc q.2 pc l st h with
    | some (pc1, l1, st1, h1, P) => match grun K sc r pc1 l1 st1 h1 with
      | some (pc2, l2, st2, h2, Q) => some (pc2, l2, st2, h2, gand P Q)
      | none => none
    | none => none) none
def gdec (cc : ByteArray) : List (Nat × Instr) → Bool
  | [] => true
  | q :: r => decide (decode cc q.1 = .ok (q.2, glen q.2)) && gdec cc r
end
section
/-! THE ABSTRACT MACHINE IS SOUND: gW at the state behind an instruction gives gW ahead of it. Printed by wip/whole/sound.py -/
theorem gml_fil {ad : Nat → Nat} {l : gL} : True := trivial
theorem hD_set {G : gG} {ad : Nat → Nat} {h : gH} {A : Nat → Prop} {a : Nat} {e : gC} (hD : va_D A ((gmw G ad h).set a (ad a, gmc G ad e))) : va_D A (gmw G ad (h.set a e)) := by rw [← gmw_set]; exact hD
theorem hP_set {G : gG} {ad : Nat → Nat} {h : gH} {H : Heap} {a : Nat} {e : gC} (hP : va_P G.1 gcl ((gmw G ad h).set a (ad a, gmc G ad e)) H) : va_P G.1 gcl (gmw G ad (h.set a e)) H := by rw [← gmw_set]; exact hP
theorem gmw_of {G : gG} {ad : Nat → Nat} {h : gH} {k : Nat} {e : gC} (hk : h[k]? = some e) : (gmw G ad h)[k]? = some (ad k, gmc G ad e) := by rw [gmw_at, hk]; rfl
theorem gidx {a : Nat} (h1 : Nat.ble 1000 a = true) (h2 : Nat.blt a 1004 = true) : 1000 ≤ a ∧ a - 1000 < 4 ∧ 1000 + (a - 1000) = a := by
  have h3 : 1000 ≤ a := Nat.le_of_ble_eq_true h1
  have h4 : a < 1004 := Nat.le_of_ble_eq_true h2
  omega
section GS
variable {K : gK} {sc : Nat × (Nat → Int32)} {R : Room} {n0 : Nat} {E : gO → gH → Prop} {cs ss pc : Nat} {l : gL} {st : List Value} {h : gH} {pc' : Nat} {l' : gL} {st' : List Value} {h' : gH} {P : Option Prop}
theorem gs_iconst {n : Int} (hd : decode K.2.2.1 pc = .ok (.iconst n, 1)) (hr : (some (pc + 1, l, .int (Int32.ofInt n) :: st, h, none) : Option gSt) = some (pc', l', st', h', P)) (hp : gpr P) (k : gW K sc R n0 E cs ss pc' l' st' h') : gW K sc R n0 E cs ss pc l st h := by
  cases hr
  intro p la e s m args below meth c G ad0 A X H locs ad ls had hl hP hD hS
  obtain ⟨hx, hb, hml, hown, hts, hK, hamb, hA, -, hlk, -, hmn, -⟩ := id X
  exact lv_iconst hx hb hd rfl (k p la e s m args below meth c G ad0 A X H locs ad ls had hl hP hD hS)
theorem gs_bipush {n : Int} (hd : decode K.2.2.1 pc = .ok (.bipush n, 2)) (hr : (some (pc + 2, l, .int (Int8.ofInt n).toInt32 :: st, h, none) : Option gSt) = some (pc', l', st', h', P)) (hp : gpr P) (k : gW K sc R n0 E cs ss pc' l' st' h') : gW K sc R n0 E cs ss pc l st h := by
  cases hr
  intro p la e s m args below meth c G ad0 A X H locs ad ls had hl hP hD hS
  obtain ⟨hx, hb, hml, hown, hts, hK, hamb, hA, -, hlk, -, hmn, -⟩ := id X
  exact lv_bipush hx hb hd rfl (k p la e s m args below meth c G ad0 A X H locs ad ls had hl hP hD hS)
theorem gs_sipush {n : Int} (hd : decode K.2.2.1 pc = .ok (.sipush n, 3)) (hr : (some (pc + 3, l, .int (Int16.ofInt n).toInt32 :: st, h, none) : Option gSt) = some (pc', l', st', h', P)) (hp : gpr P) (k : gW K sc R n0 E cs ss pc' l' st' h') : gW K sc R n0 E cs ss pc l st h := by
  cases hr
  intro p la e s m args below meth c G ad0 A X H locs ad ls had hl hP hD hS
  obtain ⟨hx, hb, hml, hown, hts, hK, hamb, hA, -, hlk, -, hmn, -⟩ := id X
  exact lv_sipush hx hb hd rfl (k p la e s m args below meth c G ad0 A X H locs ad ls had hl hP hD hS)
theorem gs_lconst {n : Fin 2} (hd : decode K.2.2.1 pc = .ok (.lconst n, 1)) (hr : (some (pc + 1, l, .long (Int64.ofNat n.val) :: st, h, none) : Option gSt) = some (pc', l', st', h', P)) (hp : gpr P) (k : gW K sc R n0 E cs ss pc' l' st' h') : gW K sc R n0 E cs ss pc l st h := by
  cases hr
  intro p la e s m args below meth c G ad0 A X H locs ad ls had hl hP hD hS
  obtain ⟨hx, hb, hml, hown, hts, hK, hamb, hA, -, hlk, -, hmn, -⟩ := id X
  exact lv_lconst hx hb hd rfl (k p la e s m args below meth c G ad0 A X H locs ad ls had hl hP hD hS)
theorem gs_null  (hd : decode K.2.2.1 pc = .ok (.aconst_null, 1)) (hr : (some (pc + 1, l, .null :: st, h, none) : Option gSt) = some (pc', l', st', h', P)) (hp : gpr P) (k : gW K sc R n0 E cs ss pc' l' st' h') : gW K sc R n0 E cs ss pc l st h := by
  cases hr
  intro p la e s m args below meth c G ad0 A X H locs ad ls had hl hP hD hS
  obtain ⟨hx, hb, hml, hown, hts, hK, hamb, hA, -, hlk, -, hmn, -⟩ := id X
  exact lv_null hx hb hd (k p la e s m args below meth c G ad0 A X H locs ad ls had hl hP hD hS)
theorem gs_dconst {n : Fin 2} (hd : decode K.2.2.1 pc = .ok (.dconst n, 1)) (hr : (some (pc + 1, l, .double (match n.val with | 0 => FP.dconst0 | _ => FP.dconst1) :: st, h, none) : Option gSt) = some (pc', l', st', h', P)) (hp : gpr P) (k : gW K sc R n0 E cs ss pc' l' st' h') : gW K sc R n0 E cs ss pc l st h := by
  cases hr
  intro p la e s m args below meth c G ad0 A X H locs ad ls had hl hP hD hS
  obtain ⟨hx, hb, hml, hown, hts, hK, hamb, hA, -, hlk, -, hmn, -⟩ := id X
  match n, hd, k with
  | ⟨0, _⟩, hd, k => exact lv_dconst0 hx hb hd (k p la e s m args below meth c G ad0 A X H locs ad ls had hl hP hD hS)
  | ⟨1, _⟩, hd, k => exact lv_dconst1 hx hb hd (k p la e s m args below meth c G ad0 A X H locs ad ls had hl hP hD hS)
theorem gs_ldc2 {n : Nat} (hd : decode K.2.2.1 pc = .ok (.ldc2_w n, 3)) (hr : (match gLc K.1 n with
    | some x => some (pc + 3, l, .long x :: st, h, none)
    | none => match gDc K.1 n with
      | some x => some (pc + 3, l, .double x :: st, h, none)
      | none => none : Option gSt) = some (pc', l', st', h', P)) (hp : gpr P) (k : gW K sc R n0 E cs ss pc' l' st' h') : gW K sc R n0 E cs ss pc l st h := by
  split at hr
  · rename_i x hq
    cases hr
    intro p la e s m args below meth c G ad0 A X H locs ad ls had hl hP hD hS
    obtain ⟨hx, hb, hml, hown, hts, hK, hamb, hA, -, hlk, -, hmn, -⟩ := id X
    exact lv_ldc2 hx hb hown (hts _ (gLc_ok hq)) hd (k p la e s m args below meth c G ad0 A X H locs ad ls had hl hP hD hS)
  · split at hr
    · rename_i x hq
      cases hr
      intro p la e s m args below meth c G ad0 A X H locs ad ls had hl hP hD hS
      obtain ⟨hx, hb, hml, hown, hts, hK, hamb, hA, -, hlk, -, hmn, -⟩ := id X
      exact lv_ldc2d hx hb hown (hts _ (gDc_ok hq)) hd (k p la e s m args below meth c G ad0 A X H locs ad ls had hl hP hD hS)
    · cases hr
theorem gs_iload {n : Nat} (hd : decode K.2.2.1 pc = .ok (.iload n, 2)) (hr : gldI l n (pc + 2) st h = some (pc', l', st', h', P)) (hp : gpr P) (k : gW K sc R n0 E cs ss pc' l' st' h') : gW K sc R n0 E cs ss pc l st h := by
  unfold gldI at hr
  split at hr
  · rename_i x hq
    cases hr
    intro p la e s m args below meth c G ad0 A X H locs ad ls had hl hP hD hS
    obtain ⟨hx, hb, hml, hown, hts, hK, hamb, hA, -, hlk, -, hmn, -⟩ := id X
    exact lv_iload hx hb hd (gget_at hl hq) (k p la e s m args below meth c G ad0 A X H locs ad ls had hl hP hD hS)
  · cases hr
theorem gs_iload_n {n : Fin 4} (hd : decode K.2.2.1 pc = .ok (.iload_n n, 1)) (hr : gldI l n.val (pc + 1) st h = some (pc', l', st', h', P)) (hp : gpr P) (k : gW K sc R n0 E cs ss pc' l' st' h') : gW K sc R n0 E cs ss pc l st h := by
  unfold gldI at hr
  split at hr
  · rename_i x hq
    cases hr
    intro p la e s m args below meth c G ad0 A X H locs ad ls had hl hP hD hS
    obtain ⟨hx, hb, hml, hown, hts, hK, hamb, hA, -, hlk, -, hmn, -⟩ := id X
    exact lv_iload_n hx hb hd rfl (gget_at hl hq) (k p la e s m args below meth c G ad0 A X H locs ad ls had hl hP hD hS)
  · cases hr
theorem gs_istore {n : Nat} (hd : decode K.2.2.1 pc = .ok (.istore n, 2)) (hr : gstI K.2.2.2.1 l n (pc + 2) st h = some (pc', l', st', h', P)) (hp : gpr P) (k : gW K sc R n0 E cs ss pc' l' st' h') : gW K sc R n0 E cs ss pc l st h := by
  unfold gstI at hr
  split at hr
  · rename_i x r
    cases hb1 : Nat.blt n K.2.2.2.1 with
    | false => rw [hb1] at hr; cases hr
    | true =>
      rw [hb1] at hr
      cases hr
      intro p la e s m args below meth c G ad0 A X H locs ad ls had hl hP hD hS
      obtain ⟨hx, hb, hml, hown, hts, hK, hamb, hA, -, hlk, -, hmn, -⟩ := id X
      have hn : n < K.2.2.2.1 := Nat.le_of_ble_eq_true hb1
      exact lv_istore hx hb hd hl hn rfl (fun ls hl => k p la e s m args below meth c G ad0 A X H locs ad ls had (gput1_has hl) hP hD hS)
  · cases hr
theorem gs_istore_n {n : Fin 4} (hd : decode K.2.2.1 pc = .ok (.istore_n n, 1)) (hr : gstI K.2.2.2.1 l n.val (pc + 1) st h = some (pc', l', st', h', P)) (hp : gpr P) (k : gW K sc R n0 E cs ss pc' l' st' h') : gW K sc R n0 E cs ss pc l st h := by
  unfold gstI at hr
  split at hr
  · rename_i x r
    cases hb1 : Nat.blt n.val K.2.2.2.1 with
    | false => rw [hb1] at hr; cases hr
    | true =>
      rw [hb1] at hr
      cases hr
      intro p la e s m args below meth c G ad0 A X H locs ad ls had hl hP hD hS
      obtain ⟨hx, hb, hml, hown, hts, hK, hamb, hA, -, hlk, -, hmn, -⟩ := id X
      have hn : n.val < K.2.2.2.1 := Nat.le_of_ble_eq_true hb1
      exact lv_istore_n hx hb hd rfl hl hn rfl (fun ls hl => k p la e s m args below meth c G ad0 A X H locs ad ls had (gput1_has hl) hP hD hS)
  · cases hr
theorem gs_lload {n : Nat} (hd : decode K.2.2.1 pc = .ok (.lload n, 2)) (hr : gldJ l n (pc + 2) st h = some (pc', l', st', h', P)) (hp : gpr P) (k : gW K sc R n0 E cs ss pc' l' st' h') : gW K sc R n0 E cs ss pc l st h := by
  unfold gldJ at hr
  split at hr
  · rename_i x hq
    cases hr
    intro p la e s m args below meth c G ad0 A X H locs ad ls had hl hP hD hS
    obtain ⟨hx, hb, hml, hown, hts, hK, hamb, hA, -, hlk, -, hmn, -⟩ := id X
    exact lv_lload hx hb hd (gget_at hl hq) (k p la e s m args below meth c G ad0 A X H locs ad ls had hl hP hD hS)
  · cases hr
theorem gs_lload_n {n : Fin 4} (hd : decode K.2.2.1 pc = .ok (.lload_n n, 1)) (hr : gldJ l n.val (pc + 1) st h = some (pc', l', st', h', P)) (hp : gpr P) (k : gW K sc R n0 E cs ss pc' l' st' h') : gW K sc R n0 E cs ss pc l st h := by
  unfold gldJ at hr
  split at hr
  · rename_i x hq
    cases hr
    intro p la e s m args below meth c G ad0 A X H locs ad ls had hl hP hD hS
    obtain ⟨hx, hb, hml, hown, hts, hK, hamb, hA, -, hlk, -, hmn, -⟩ := id X
    exact lv_lload_n hx hb hd rfl (gget_at hl hq) (k p la e s m args below meth c G ad0 A X H locs ad ls had hl hP hD hS)
  · cases hr
theorem gs_lstore {n : Nat} (hd : decode K.2.2.1 pc = .ok (.lstore n, 2)) (hr : gstJ K.2.2.2.1 l n (pc + 2) st h = some (pc', l', st', h', P)) (hp : gpr P) (k : gW K sc R n0 E cs ss pc' l' st' h') : gW K sc R n0 E cs ss pc l st h := by
  unfold gstJ at hr
  split at hr
  · rename_i x r
    cases hb1 : Nat.blt (n + 1) K.2.2.2.1 with
    | false => rw [hb1] at hr; cases hr
    | true =>
      rw [hb1] at hr
      cases hr
      intro p la e s m args below meth c G ad0 A X H locs ad ls had hl hP hD hS
      obtain ⟨hx, hb, hml, hown, hts, hK, hamb, hA, -, hlk, -, hmn, -⟩ := id X
      have hn : n + 1 < K.2.2.2.1 := Nat.le_of_ble_eq_true hb1
      exact lv_lstore hx hb hd hl hn rfl (fun ls hl => k p la e s m args below meth c G ad0 A X H locs ad ls had (gput2_has hl) hP hD hS)
  · cases hr
theorem gs_lstore_n {n : Fin 4} (hd : decode K.2.2.1 pc = .ok (.lstore_n n, 1)) (hr : gstJ K.2.2.2.1 l n.val (pc + 1) st h = some (pc', l', st', h', P)) (hp : gpr P) (k : gW K sc R n0 E cs ss pc' l' st' h') : gW K sc R n0 E cs ss pc l st h := by
  unfold gstJ at hr
  split at hr
  · rename_i x r
    cases hb1 : Nat.blt (n.val + 1) K.2.2.2.1 with
    | false => rw [hb1] at hr; cases hr
    | true =>
      rw [hb1] at hr
      cases hr
      intro p la e s m args below meth c G ad0 A X H locs ad ls had hl hP hD hS
      obtain ⟨hx, hb, hml, hown, hts, hK, hamb, hA, -, hlk, -, hmn, -⟩ := id X
      have hn : n.val + 1 < K.2.2.2.1 := Nat.le_of_ble_eq_true hb1
      exact lv_lstore_n hx hb hd rfl hl hn rfl (fun ls hl => k p la e s m args below meth c G ad0 A X H locs ad ls had (gput2_has hl) hP hD hS)
  · cases hr
theorem gs_dload {n : Nat} (hd : decode K.2.2.1 pc = .ok (.dload n, 2)) (hr : gldD l n (pc + 2) st h = some (pc', l', st', h', P)) (hp : gpr P) (k : gW K sc R n0 E cs ss pc' l' st' h') : gW K sc R n0 E cs ss pc l st h := by
  unfold gldD at hr
  split at hr
  · rename_i x hq
    cases hr
    intro p la e s m args below meth c G ad0 A X H locs ad ls had hl hP hD hS
    obtain ⟨hx, hb, hml, hown, hts, hK, hamb, hA, -, hlk, -, hmn, -⟩ := id X
    exact lv_dload hx hb hd (gget_at hl hq) (k p la e s m args below meth c G ad0 A X H locs ad ls had hl hP hD hS)
  · cases hr
theorem gs_dload_n {n : Fin 4} (hd : decode K.2.2.1 pc = .ok (.dload_n n, 1)) (hr : gldD l n.val (pc + 1) st h = some (pc', l', st', h', P)) (hp : gpr P) (k : gW K sc R n0 E cs ss pc' l' st' h') : gW K sc R n0 E cs ss pc l st h := by
  unfold gldD at hr
  split at hr
  · rename_i x hq
    cases hr
    intro p la e s m args below meth c G ad0 A X H locs ad ls had hl hP hD hS
    obtain ⟨hx, hb, hml, hown, hts, hK, hamb, hA, -, hlk, -, hmn, -⟩ := id X
    exact lv_dload_n hx hb hd rfl (gget_at hl hq) (k p la e s m args below meth c G ad0 A X H locs ad ls had hl hP hD hS)
  · cases hr
theorem gs_dstore {n : Nat} (hd : decode K.2.2.1 pc = .ok (.dstore n, 2)) (hr : gstD K.2.2.2.1 l n (pc + 2) st h = some (pc', l', st', h', P)) (hp : gpr P) (k : gW K sc R n0 E cs ss pc' l' st' h') : gW K sc R n0 E cs ss pc l st h := by
  unfold gstD at hr
  split at hr
  · rename_i x r
    cases hb1 : Nat.blt (n + 1) K.2.2.2.1 with
    | false => rw [hb1] at hr; cases hr
    | true =>
      rw [hb1] at hr
      cases hr
      intro p la e s m args below meth c G ad0 A X H locs ad ls had hl hP hD hS
      obtain ⟨hx, hb, hml, hown, hts, hK, hamb, hA, -, hlk, -, hmn, -⟩ := id X
      have hn : n + 1 < K.2.2.2.1 := Nat.le_of_ble_eq_true hb1
      exact lv_dstore hx hb hd hl hn rfl (fun ls hl => k p la e s m args below meth c G ad0 A X H locs ad ls had (gput2_has hl) hP hD hS)
  · cases hr
theorem gs_dstore_n {n : Fin 4} (hd : decode K.2.2.1 pc = .ok (.dstore_n n, 1)) (hr : gstD K.2.2.2.1 l n.val (pc + 1) st h = some (pc', l', st', h', P)) (hp : gpr P) (k : gW K sc R n0 E cs ss pc' l' st' h') : gW K sc R n0 E cs ss pc l st h := by
  unfold gstD at hr
  split at hr
  · rename_i x r
    cases hb1 : Nat.blt (n.val + 1) K.2.2.2.1 with
    | false => rw [hb1] at hr; cases hr
    | true =>
      rw [hb1] at hr
      cases hr
      intro p la e s m args below meth c G ad0 A X H locs ad ls had hl hP hD hS
      obtain ⟨hx, hb, hml, hown, hts, hK, hamb, hA, -, hlk, -, hmn, -⟩ := id X
      have hn : n.val + 1 < K.2.2.2.1 := Nat.le_of_ble_eq_true hb1
      exact lv_dstore_n hx hb hd rfl hl hn rfl (fun ls hl => k p la e s m args below meth c G ad0 A X H locs ad ls had (gput2_has hl) hP hD hS)
  · cases hr
theorem gs_aload {n : Nat} (hd : decode K.2.2.1 pc = .ok (.aload n, 2)) (hr : gldA l n (pc + 2) st h = some (pc', l', st', h', P)) (hp : gpr P) (k : gW K sc R n0 E cs ss pc' l' st' h') : gW K sc R n0 E cs ss pc l st h := by
  unfold gldA at hr
  split at hr
  · rename_i x hq
    cases hr
    intro p la e s m args below meth c G ad0 A X H locs ad ls had hl hP hD hS
    obtain ⟨hx, hb, hml, hown, hts, hK, hamb, hA, -, hlk, -, hmn, -⟩ := id X
    exact lv_aload hx hb hd (gget_at hl hq) (k p la e s m args below meth c G ad0 A X H locs ad ls had hl hP hD hS)
  · cases hr
theorem gs_aload_n {n : Fin 4} (hd : decode K.2.2.1 pc = .ok (.aload_n n, 1)) (hr : gldA l n.val (pc + 1) st h = some (pc', l', st', h', P)) (hp : gpr P) (k : gW K sc R n0 E cs ss pc' l' st' h') : gW K sc R n0 E cs ss pc l st h := by
  unfold gldA at hr
  split at hr
  · rename_i x hq
    cases hr
    intro p la e s m args below meth c G ad0 A X H locs ad ls had hl hP hD hS
    obtain ⟨hx, hb, hml, hown, hts, hK, hamb, hA, -, hlk, -, hmn, -⟩ := id X
    exact lv_aload_n hx hb hd rfl (gget_at hl hq) (k p la e s m args below meth c G ad0 A X H locs ad ls had hl hP hD hS)
  · cases hr
theorem gs_astore {n : Nat} (hd : decode K.2.2.1 pc = .ok (.astore n, 2)) (hr : gstA K.2.2.2.1 l n (pc + 2) st h = some (pc', l', st', h', P)) (hp : gpr P) (k : gW K sc R n0 E cs ss pc' l' st' h') : gW K sc R n0 E cs ss pc l st h := by
  unfold gstA at hr
  split at hr
  · rename_i x r
    cases hb1 : Nat.blt n K.2.2.2.1 with
    | false => rw [hb1] at hr; cases hr
    | true =>
      rw [hb1] at hr
      cases hr
      intro p la e s m args below meth c G ad0 A X H locs ad ls had hl hP hD hS
      obtain ⟨hx, hb, hml, hown, hts, hK, hamb, hA, -, hlk, -, hmn, -⟩ := id X
      have hn : n < K.2.2.2.1 := Nat.le_of_ble_eq_true hb1
      exact lv_astore hx hb hd hl hn rfl (fun ls hl => k p la e s m args below meth c G ad0 A X H locs ad ls had (gput1_has hl) hP hD hS)
  · cases hr
theorem gs_astore_n {n : Fin 4} (hd : decode K.2.2.1 pc = .ok (.astore_n n, 1)) (hr : gstA K.2.2.2.1 l n.val (pc + 1) st h = some (pc', l', st', h', P)) (hp : gpr P) (k : gW K sc R n0 E cs ss pc' l' st' h') : gW K sc R n0 E cs ss pc l st h := by
  unfold gstA at hr
  split at hr
  · rename_i x r
    cases hb1 : Nat.blt n.val K.2.2.2.1 with
    | false => rw [hb1] at hr; cases hr
    | true =>
      rw [hb1] at hr
      cases hr
      intro p la e s m args below meth c G ad0 A X H locs ad ls had hl hP hD hS
      obtain ⟨hx, hb, hml, hown, hts, hK, hamb, hA, -, hlk, -, hmn, -⟩ := id X
      have hn : n.val < K.2.2.2.1 := Nat.le_of_ble_eq_true hb1
      exact lv_astore_n hx hb hd rfl hl hn rfl (fun ls hl => k p la e s m args below meth c G ad0 A X H locs ad ls had (gput1_has hl) hP hD hS)
  · cases hr
theorem gs_iinc {n : Nat} {d : Int} (hd : decode K.2.2.1 pc = .ok (.iinc n d, 3)) (hr : (match gget l n with
    | some (.int x) => cond (Nat.blt n K.2.2.2.1) (some (pc + 3, gput1 l n (.int (x + Int32.ofInt d)), st, h, none)) none
    | _ => none : Option gSt) = some (pc', l', st', h', P)) (hp : gpr P) (k : gW K sc R n0 E cs ss pc' l' st' h') : gW K sc R n0 E cs ss pc l st h := by
  split at hr
  · rename_i x hq
    cases hb1 : Nat.blt n K.2.2.2.1 with
    | false => rw [hb1] at hr; cases hr
    | true =>
      rw [hb1] at hr
      cases hr
      intro p la e s m args below meth c G ad0 A X H locs ad ls had hl hP hD hS
      obtain ⟨hx, hb, hml, hown, hts, hK, hamb, hA, -, hlk, -, hmn, -⟩ := id X
      have hn : n < K.2.2.2.1 := Nat.le_of_ble_eq_true hb1
      obtain ⟨j, hj⟩ := List.getElem?_of_mem (gml_mem (ad := ad) (gget_mem hq))
      exact lv_iinc hx hb hd hl hj rfl hn rfl (fun ls hl => k p la e s m args below meth c G ad0 A X H locs ad ls had (gput1_has hl) hP hD hS)
  · cases hr
theorem gs_pop  (hd : decode K.2.2.1 pc = .ok (.pop, 1)) (hr : (match st with
    | v :: r => cond (Nat.beq v.category 1) (some (pc + 1, l, r, h, none)) none
    | _ => none : Option gSt) = some (pc', l', st', h', P)) (hp : gpr P) (k : gW K sc R n0 E cs ss pc' l' st' h') : gW K sc R n0 E cs ss pc l st h := by
  split at hr
  · rename_i v r
    cases hb1 : Nat.beq v.category 1 with
    | false => rw [hb1] at hr; cases hr
    | true =>
      rw [hb1] at hr
      cases hr
      intro p la e s m args below meth c G ad0 A X H locs ad ls had hl hP hD hS
      obtain ⟨hx, hb, hml, hown, hts, hK, hamb, hA, -, hlk, -, hmn, -⟩ := id X
      exact lv_pop hx hb hd (by rw [gmv_cat]; exact Nat.eq_of_beq_eq_true hb1) (k p la e s m args below meth c G ad0 A X H locs ad ls had hl hP hD hS)
  · cases hr
theorem gs_dup  (hd : decode K.2.2.1 pc = .ok (.dup, 1)) (hr : (match st with
    | v :: r => cond (Nat.beq v.category 1) (some (pc + 1, l, v :: v :: r, h, none)) none
    | _ => none : Option gSt) = some (pc', l', st', h', P)) (hp : gpr P) (k : gW K sc R n0 E cs ss pc' l' st' h') : gW K sc R n0 E cs ss pc l st h := by
  split at hr
  · rename_i v r
    cases hb1 : Nat.beq v.category 1 with
    | false => rw [hb1] at hr; cases hr
    | true =>
      rw [hb1] at hr
      cases hr
      intro p la e s m args below meth c G ad0 A X H locs ad ls had hl hP hD hS
      obtain ⟨hx, hb, hml, hown, hts, hK, hamb, hA, -, hlk, -, hmn, -⟩ := id X
      exact lv_dup hx hb hd (by rw [gmv_cat]; exact Nat.eq_of_beq_eq_true hb1) (k p la e s m args below meth c G ad0 A X H locs ad ls had hl hP hD hS)
  · cases hr
theorem gs_dup2  (hd : decode K.2.2.1 pc = .ok (.dup2, 1)) (hr : (match st with
    | v :: w :: r => cond (Nat.beq v.category 1 && Nat.beq w.category 1) (some (pc + 1, l, v :: w :: v :: w :: r, h, none)) none
    | _ => none : Option gSt) = some (pc', l', st', h', P)) (hp : gpr P) (k : gW K sc R n0 E cs ss pc' l' st' h') : gW K sc R n0 E cs ss pc l st h := by
  split at hr
  · rename_i v w r
    cases hb1 : (Nat.beq v.category 1 && Nat.beq w.category 1) with
    | false => rw [hb1] at hr; cases hr
    | true =>
      rw [hb1] at hr
      cases hr
      simp only [Bool.and_eq_true] at hb1
      intro p la e s m args below meth c G ad0 A X H locs ad ls had hl hP hD hS
      obtain ⟨hx, hb, hml, hown, hts, hK, hamb, hA, -, hlk, -, hmn, -⟩ := id X
      exact lv_dup2_11 hx hb hd (by rw [gmv_cat]; exact Nat.eq_of_beq_eq_true hb1.1) (by rw [gmv_cat]; exact Nat.eq_of_beq_eq_true hb1.2) (k p la e s m args below meth c G ad0 A X H locs ad ls had hl hP hD hS)
  · cases hr
theorem gs_iadd  (hd : decode K.2.2.1 pc = .ok (.iadd, 1)) (hr : gi2 (fun x y => x + y) (pc + 1) l st h = some (pc', l', st', h', P)) (hp : gpr P) (k : gW K sc R n0 E cs ss pc' l' st' h') : gW K sc R n0 E cs ss pc l st h := by
  unfold gi2 at hr
  split at hr
  · rename_i y x r
    cases hr
    intro p la e s m args below meth c G ad0 A X H locs ad ls had hl hP hD hS
    obtain ⟨hx, hb, hml, hown, hts, hK, hamb, hA, -, hlk, -, hmn, -⟩ := id X
    exact lv_iadd hx hb hd (k p la e s m args below meth c G ad0 A X H locs ad ls had hl hP hD hS)
  · cases hr
theorem gs_isub  (hd : decode K.2.2.1 pc = .ok (.isub, 1)) (hr : gi2 (fun x y => x - y) (pc + 1) l st h = some (pc', l', st', h', P)) (hp : gpr P) (k : gW K sc R n0 E cs ss pc' l' st' h') : gW K sc R n0 E cs ss pc l st h := by
  unfold gi2 at hr
  split at hr
  · rename_i y x r
    cases hr
    intro p la e s m args below meth c G ad0 A X H locs ad ls had hl hP hD hS
    obtain ⟨hx, hb, hml, hown, hts, hK, hamb, hA, -, hlk, -, hmn, -⟩ := id X
    exact lv_isub hx hb hd (k p la e s m args below meth c G ad0 A X H locs ad ls had hl hP hD hS)
  · cases hr
theorem gs_imul  (hd : decode K.2.2.1 pc = .ok (.imul, 1)) (hr : gi2 (fun x y => x * y) (pc + 1) l st h = some (pc', l', st', h', P)) (hp : gpr P) (k : gW K sc R n0 E cs ss pc' l' st' h') : gW K sc R n0 E cs ss pc l st h := by
  unfold gi2 at hr
  split at hr
  · rename_i y x r
    cases hr
    intro p la e s m args below meth c G ad0 A X H locs ad ls had hl hP hD hS
    obtain ⟨hx, hb, hml, hown, hts, hK, hamb, hA, -, hlk, -, hmn, -⟩ := id X
    exact lv_imul hx hb hd (k p la e s m args below meth c G ad0 A X H locs ad ls had hl hP hD hS)
  · cases hr
theorem gs_iand  (hd : decode K.2.2.1 pc = .ok (.iand, 1)) (hr : gi2 (fun x y => x &&& y) (pc + 1) l st h = some (pc', l', st', h', P)) (hp : gpr P) (k : gW K sc R n0 E cs ss pc' l' st' h') : gW K sc R n0 E cs ss pc l st h := by
  unfold gi2 at hr
  split at hr
  · rename_i y x r
    cases hr
    intro p la e s m args below meth c G ad0 A X H locs ad ls had hl hP hD hS
    obtain ⟨hx, hb, hml, hown, hts, hK, hamb, hA, -, hlk, -, hmn, -⟩ := id X
    exact lv_iand hx hb hd (k p la e s m args below meth c G ad0 A X H locs ad ls had hl hP hD hS)
  · cases hr
theorem gs_ladd  (hd : decode K.2.2.1 pc = .ok (.ladd, 1)) (hr : gl2 (fun x y => x + y) (pc + 1) l st h = some (pc', l', st', h', P)) (hp : gpr P) (k : gW K sc R n0 E cs ss pc' l' st' h') : gW K sc R n0 E cs ss pc l st h := by
  unfold gl2 at hr
  split at hr
  · rename_i y x r
    cases hr
    intro p la e s m args below meth c G ad0 A X H locs ad ls had hl hP hD hS
    obtain ⟨hx, hb, hml, hown, hts, hK, hamb, hA, -, hlk, -, hmn, -⟩ := id X
    exact lv_ladd hx hb hd (k p la e s m args below meth c G ad0 A X H locs ad ls had hl hP hD hS)
  · cases hr
theorem gs_lsub  (hd : decode K.2.2.1 pc = .ok (.lsub, 1)) (hr : gl2 (fun x y => x - y) (pc + 1) l st h = some (pc', l', st', h', P)) (hp : gpr P) (k : gW K sc R n0 E cs ss pc' l' st' h') : gW K sc R n0 E cs ss pc l st h := by
  unfold gl2 at hr
  split at hr
  · rename_i y x r
    cases hr
    intro p la e s m args below meth c G ad0 A X H locs ad ls had hl hP hD hS
    obtain ⟨hx, hb, hml, hown, hts, hK, hamb, hA, -, hlk, -, hmn, -⟩ := id X
    exact lv_lsub hx hb hd (k p la e s m args below meth c G ad0 A X H locs ad ls had hl hP hD hS)
  · cases hr
theorem gs_lmul  (hd : decode K.2.2.1 pc = .ok (.lmul, 1)) (hr : gl2 (fun x y => x * y) (pc + 1) l st h = some (pc', l', st', h', P)) (hp : gpr P) (k : gW K sc R n0 E cs ss pc' l' st' h') : gW K sc R n0 E cs ss pc l st h := by
  unfold gl2 at hr
  split at hr
  · rename_i y x r
    cases hr
    intro p la e s m args below meth c G ad0 A X H locs ad ls had hl hP hD hS
    obtain ⟨hx, hb, hml, hown, hts, hK, hamb, hA, -, hlk, -, hmn, -⟩ := id X
    exact lv_lmul hx hb hd (k p la e s m args below meth c G ad0 A X H locs ad ls had hl hP hD hS)
  · cases hr
theorem gs_dmul  (hd : decode K.2.2.1 pc = .ok (.dmul, 1)) (hr : gd2 FP.dmul (pc + 1) l st h = some (pc', l', st', h', P)) (hp : gpr P) (k : gW K sc R n0 E cs ss pc' l' st' h') : gW K sc R n0 E cs ss pc l st h := by
  unfold gd2 at hr
  split at hr
  · rename_i y x r
    cases hr
    intro p la e s m args below meth c G ad0 A X H locs ad ls had hl hP hD hS
    obtain ⟨hx, hb, hml, hown, hts, hK, hamb, hA, -, hlk, -, hmn, -⟩ := id X
    exact lv_dmul hx hb hd hp (k p la e s m args below meth c G ad0 A X H locs ad ls had hl hP hD hS)
  · cases hr
theorem gs_dsub  (hd : decode K.2.2.1 pc = .ok (.dsub, 1)) (hr : gd2 FP.dsub (pc + 1) l st h = some (pc', l', st', h', P)) (hp : gpr P) (k : gW K sc R n0 E cs ss pc' l' st' h') : gW K sc R n0 E cs ss pc l st h := by
  unfold gd2 at hr
  split at hr
  · rename_i y x r
    cases hr
    intro p la e s m args below meth c G ad0 A X H locs ad ls had hl hP hD hS
    obtain ⟨hx, hb, hml, hown, hts, hK, hamb, hA, -, hlk, -, hmn, -⟩ := id X
    exact lv_dsub hx hb hd hp (k p la e s m args below meth c G ad0 A X H locs ad ls had hl hP hD hS)
  · cases hr
theorem gs_ddiv  (hd : decode K.2.2.1 pc = .ok (.ddiv, 1)) (hr : gd2 FP.ddiv (pc + 1) l st h = some (pc', l', st', h', P)) (hp : gpr P) (k : gW K sc R n0 E cs ss pc' l' st' h') : gW K sc R n0 E cs ss pc l st h := by
  unfold gd2 at hr
  split at hr
  · rename_i y x r
    cases hr
    intro p la e s m args below meth c G ad0 A X H locs ad ls had hl hP hD hS
    obtain ⟨hx, hb, hml, hown, hts, hK, hamb, hA, -, hlk, -, hmn, -⟩ := id X
    exact lv_ddiv hx hb hd hp (k p la e s m args below meth c G ad0 A X H locs ad ls had hl hP hD hS)
  · cases hr
theorem gs_idiv  (hd : decode K.2.2.1 pc = .ok (.idiv, 1)) (hr : (match st with
    | .int y :: .int x :: r => some (pc + 1, l, .int (x / y) :: r, h, some (¬ y = 0))
    | _ => none : Option gSt) = some (pc', l', st', h', P)) (hp : gpr P) (k : gW K sc R n0 E cs ss pc' l' st' h') : gW K sc R n0 E cs ss pc l st h := by
  split at hr
  · rename_i y x r
    cases hr
    intro p la e s m args below meth c G ad0 A X H locs ad ls had hl hP hD hS
    obtain ⟨hx, hb, hml, hown, hts, hK, hamb, hA, -, hlk, -, hmn, -⟩ := id X
    exact lv_idiv hx hb hd hp (k p la e s m args below meth c G ad0 A X H locs ad ls had hl hP hD hS)
  · cases hr
theorem gs_ineg  (hd : decode K.2.2.1 pc = .ok (.ineg, 1)) (hr : (match st with
    | .int x :: r => some (pc + 1, l, .int (-x) :: r, h, none)
    | _ => none : Option gSt) = some (pc', l', st', h', P)) (hp : gpr P) (k : gW K sc R n0 E cs ss pc' l' st' h') : gW K sc R n0 E cs ss pc l st h := by
  split at hr
  · rename_i x r
    cases hr
    intro p la e s m args below meth c G ad0 A X H locs ad ls had hl hP hD hS
    obtain ⟨hx, hb, hml, hown, hts, hK, hamb, hA, -, hlk, -, hmn, -⟩ := id X
    exact lv_ineg hx hb hd (k p la e s m args below meth c G ad0 A X H locs ad ls had hl hP hD hS)
  · cases hr
theorem gs_lshl  (hd : decode K.2.2.1 pc = .ok (.lshl, 1)) (hr : (match st with
    | .int y :: .long x :: r => some (pc + 1, l, .long (x <<< (y.toInt64 &&& 63)) :: r, h, none)
    | _ => none : Option gSt) = some (pc', l', st', h', P)) (hp : gpr P) (k : gW K sc R n0 E cs ss pc' l' st' h') : gW K sc R n0 E cs ss pc l st h := by
  split at hr
  · rename_i y x r
    cases hr
    intro p la e s m args below meth c G ad0 A X H locs ad ls had hl hP hD hS
    obtain ⟨hx, hb, hml, hown, hts, hK, hamb, hA, -, hlk, -, hmn, -⟩ := id X
    exact lv_lshl hx hb hd rfl (k p la e s m args below meth c G ad0 A X H locs ad ls had hl hP hD hS)
  · cases hr
theorem gs_lcmp  (hd : decode K.2.2.1 pc = .ok (.lcmp, 1)) (hr : (match st with
    | .long y :: .long x :: r => some (pc + 1, l, .int (lg_cmp x y) :: r, h, none)
    | _ => none : Option gSt) = some (pc', l', st', h', P)) (hp : gpr P) (k : gW K sc R n0 E cs ss pc' l' st' h') : gW K sc R n0 E cs ss pc l st h := by
  split at hr
  · rename_i y x r
    cases hr
    intro p la e s m args below meth c G ad0 A X H locs ad ls had hl hP hD hS
    obtain ⟨hx, hb, hml, hown, hts, hK, hamb, hA, -, hlk, -, hmn, -⟩ := id X
    exact W.lcmp hx hb hd (k p la e s m args below meth c G ad0 A X H locs ad ls had hl hP hD hS)
  · cases hr
theorem gs_i2l  (hd : decode K.2.2.1 pc = .ok (.i2l, 1)) (hr : (match st with
    | .int x :: r => some (pc + 1, l, .long x.toInt64 :: r, h, none)
    | _ => none : Option gSt) = some (pc', l', st', h', P)) (hp : gpr P) (k : gW K sc R n0 E cs ss pc' l' st' h') : gW K sc R n0 E cs ss pc l st h := by
  split at hr
  · rename_i x r
    cases hr
    intro p la e s m args below meth c G ad0 A X H locs ad ls had hl hP hD hS
    obtain ⟨hx, hb, hml, hown, hts, hK, hamb, hA, -, hlk, -, hmn, -⟩ := id X
    exact lv_i2l hx hb hd rfl (k p la e s m args below meth c G ad0 A X H locs ad ls had hl hP hD hS)
  · cases hr
theorem gs_i2d  (hd : decode K.2.2.1 pc = .ok (.i2d, 1)) (hr : (match st with
    | .int x :: r => some (pc + 1, l, .double (FP.i2d x) :: r, h, none)
    | _ => none : Option gSt) = some (pc', l', st', h', P)) (hp : gpr P) (k : gW K sc R n0 E cs ss pc' l' st' h') : gW K sc R n0 E cs ss pc l st h := by
  split at hr
  · rename_i x r
    cases hr
    intro p la e s m args below meth c G ad0 A X H locs ad ls had hl hP hD hS
    obtain ⟨hx, hb, hml, hown, hts, hK, hamb, hA, -, hlk, -, hmn, -⟩ := id X
    exact lv_i2d hx hb hd (k p la e s m args below meth c G ad0 A X H locs ad ls had hl hP hD hS)
  · cases hr
theorem gs_d2l  (hd : decode K.2.2.1 pc = .ok (.d2l, 1)) (hr : (match st with
    | .double x :: r => some (pc + 1, l, .long (FP.d2l x) :: r, h, none)
    | _ => none : Option gSt) = some (pc', l', st', h', P)) (hp : gpr P) (k : gW K sc R n0 E cs ss pc' l' st' h') : gW K sc R n0 E cs ss pc l st h := by
  split at hr
  · rename_i x r
    cases hr
    intro p la e s m args below meth c G ad0 A X H locs ad ls had hl hP hD hS
    obtain ⟨hx, hb, hml, hown, hts, hK, hamb, hA, -, hlk, -, hmn, -⟩ := id X
    exact lv_d2l hx hb hd (k p la e s m args below meth c G ad0 A X H locs ad ls had hl hP hD hS)
  · cases hr
theorem gs_dcmp {op : CmpOp} (hd : decode K.2.2.1 pc = .ok (.dcmp op, 1)) (hr : (match st with
    | .double y :: .double x :: r => some (pc + 1, l, .int (Op.cmpValue (FP.dcmp x y) op) :: r, h, none)
    | _ => none : Option gSt) = some (pc', l', st', h', P)) (hp : gpr P) (k : gW K sc R n0 E cs ss pc' l' st' h') : gW K sc R n0 E cs ss pc l st h := by
  split at hr
  · rename_i y x r
    cases hr
    intro p la e s m args below meth c G ad0 A X H locs ad ls had hl hP hD hS
    obtain ⟨hx, hb, hml, hown, hts, hK, hamb, hA, -, hlk, -, hmn, -⟩ := id X
    exact lv_dcmp hx hb hd (k p la e s m args below meth c G ad0 A X H locs ad ls had hl hP hD hS)
  · cases hr
theorem gs_goto {d : Int} (hd : decode K.2.2.1 pc = .ok (.goto d, 3)) (hr : (match (pc : Int) + d with
    | .ofNat t => some (t, l, st, h, none)
    | _ => none : Option gSt) = some (pc', l', st', h', P)) (hp : gpr P) (k : gW K sc R n0 E cs ss pc' l' st' h') : gW K sc R n0 E cs ss pc l st h := by
  split at hr
  · rename_i t ht
    cases hr
    intro p la e s m args below meth c G ad0 A X H locs ad ls had hl hP hD hS
    obtain ⟨hx, hb, hml, hown, hts, hK, hamb, hA, -, hlk, -, hmn, -⟩ := id X
    exact lv_goto hx hb hd ht (k p la e s m args below meth c G ad0 A X H locs ad ls had hl hP hD hS)
  · cases hr
theorem gSs_ok {o i j : Nat} (h : gSs o i = some j) : (Cond.fieldLink (gown o) i "GoldSheets" (gsn j) "[I" ∈ gTs ∨ Cond.fieldLinkNest (gown o) i "GoldSheets" (gsn j) "[I" "GoldSheets" ∈ gNs) ∧ 1 ≤ j ∧ j < 4 := by
  unfold gSs at h
  split at h
  · cases h; exact ⟨Or.inr (gmemN 129 (by decide +kernel)), by decide, by decide⟩
  · cases h; exact ⟨Or.inl (gmem 767 (by decide +kernel)), by decide, by decide⟩
  · cases h; exact ⟨Or.inl (gmem 769 (by decide +kernel)), by decide, by decide⟩
  · cases h
theorem gs_getstatic {n : Nat} (hd : decode K.2.2.1 pc = .ok (.getstatic n, 3)) (hr : (match gSs K.1 n with
    | some j => some (pc + 3, l, .ref (1000 + j) :: st, h, none)
    | none => none : Option gSt) = some (pc', l', st', h', P)) (hp : gpr P) (k : gW K sc R n0 E cs ss pc' l' st' h') : gW K sc R n0 E cs ss pc l st h := by
  split at hr
  · rename_i j hq
    cases hr
    intro p la e s m args below meth c G ad0 A X H locs ad ls had hl hP hD hS
    obtain ⟨hx, hb, hml, hown, hts, hK, hamb, hA, -, hlk, -, hmn, -⟩ := id X
    obtain ⟨hlink, h1, h2⟩ := gSs_ok hq
    have hZ := hamb.2.2.1 j h1 h2
    have hj : ad (1000 + j) = ad0 (1000 + j) := had _ (Or.inr (Nat.le_add_right _ _))
    rw [← hj] at hZ
    rcases hlink with hlink | hlink
    · exact va_gets hx hb hZ hS hown (hts _ hlink) (fun _ h => h) hd (k p la e s m args below meth c G ad0 A X H locs ad ls had hl hP hD hS)
    · exact va_getsN hx hb hZ hS hown (gNs_use hamb.2.2.2.2 _ hlink) (fun _ h => h) hd (k p la e s m args below meth c G ad0 A X H locs ad ls had hl hP hD hS)
  · cases hr
theorem gs_getfield {n : Nat} (hd : decode K.2.2.1 pc = .ok (.getfield n, 3)) (hr : ggf K.1 n (pc + 3) l st h = some (pc', l', st', h', P)) (hp : gpr P) (k : gW K sc R n0 E cs ss pc' l' st' h') : gW K sc R n0 E cs ss pc l st h := by
  unfold ggf at hr
  split at hr
  · rename_i a r
    split at hr
    · rename_i ci k0 hq
      split at hr
      · rename_i cj fs ho
        cases hb1 : Nat.beq ci cj with
        | false => rw [hb1] at hr; cases hr
        | true =>
          have hcj : ci = cj := Nat.eq_of_beq_eq_true hb1
          subst hcj
          rw [hb1] at hr
          dsimp only [cond] at hr
          split at hr
          · rename_i v hv
            cases hr
            intro p la e s m args below meth c G ad0 A X H locs ad ls had hl hP hD hS
            obtain ⟨hx, hb, hml, hown, hts, hK, hamb, hA, -⟩ := id X
            obtain ⟨hlink, hc7, hkN, hdecl⟩ := gF_ok hq
            have hv2 : (fs.map (gmv ad))[k0]? = some (gmv ad v) := by rw [List.getElem?_map, hv]; rfl
            rcases hlink with hlink | ⟨-, hlink⟩
            · exact va_get hx hb hts (gin hc7) hown hK hP a (gmw_of ho) (gcl_at hc7) k0 hkN (hts _ hlink) (fun x hf => by rw [hdecl] at hf; exact hf) hv2 hd (k p la e s m args below meth c G ad0 A X H locs ad ls had hl hP hD hS)
            · exact va_getN hx hb hts (gin hc7) hown hK hP a (gmw_of ho) (gcl_at hc7) k0 hkN (gNs_use hamb.2.2.2.2 _ hlink) (fun x hf => by rw [hdecl] at hf; exact hf) hv2 hd (k p la e s m args below meth c G ad0 A X H locs ad ls had hl hP hD hS)
          · cases hr
      · cases hr
    · cases hr
  · cases hr
theorem gfit_ok {ad : Nat → Nat} {ty : FieldType} {v : Value} (h : gfit ty v = true) : narrow ty (gmv ad v) = gmv ad v ∧ fits ty (gmv ad v) = true := by
  unfold gfit at h
  split at h
  · exact ⟨rfl, rfl⟩
  · exact ⟨rfl, rfl⟩
  · exact ⟨rfl, rfl⟩
  · exact ⟨rfl, rfl⟩
  · cases h
theorem gs_putfield {n : Nat} (hd : decode K.2.2.1 pc = .ok (.putfield n, 3)) (hr : gpf K n (pc + 3) l st h = some (pc', l', st', h', P)) (hp : gpr P) (k : gW K sc R n0 E cs ss pc' l' st' h') : gW K sc R n0 E cs ss pc l st h := by
  unfold gpf at hr
  split at hr
  · rename_i v a r
    split at hr
    · rename_i ci k0 hq
      split at hr
      · rename_i cj fs ho
        cases hb1 : (Nat.beq ci cj && (gfit (gyt ci k0) v && Nat.blt k0 fs.length)) with
        | false => rw [hb1] at hr; cases hr
        | true =>
          rw [hb1] at hr
          simp only [Bool.and_eq_true] at hb1
          obtain ⟨hb1, hb2, hb3⟩ := hb1
          have hcj : ci = cj := Nat.eq_of_beq_eq_true hb1
          subst hcj
          dsimp only [cond] at hr
          obtain ⟨hlink, hc7, hkN, hdecl⟩ := gF_ok hq
          have hty := gty hc7 k0 hkN
          cases hfin : (gTt ci k0).2.2.2 with
          | true =>
            rw [hfin] at hr
            cases hr
            intro p la e s m args below meth c G ad0 A X H locs ad ls had hl hP hD hS
            obtain ⟨hx, hb, hml, hown, hts, hK, hamb, hA, -, hlk, -, hmn, -⟩ := id X
            obtain ⟨hn1, hf1⟩ := gfit_ok (ad := ad) hb2
            have hset : ∀ j : Nat, (fs.map (gmv ad)).set j (gmv ad v) = (fs.set j v).map (gmv ad) := fun j => by rw [List.map_set]
            have hlink : Cond.fieldLink (gown K.1) n (gown ci) (gTt ci k0).2.1 (gTt ci k0).2.2.1 ∈ gTs := by
              rcases hlink with hlink | hlink
              · exact hlink
              · exact absurd hp.2 hlink.1
            refine va_putF hx hb hts (gin hc7) (gyt ci) (gty hc7) (gnm hc7) hown hK hP hD hS a (gmw_of ho) (gcl_at hc7) k0 hkN (hts _ hlink) (fun x hf => by rw [hdecl] at hf; exact hf) hfin (hmn.trans hp.1) (hdecl.trans (congrArg gown hp.2.symm)) hty hn1 hf1 (by rw [List.length_map]; exact Nat.le_of_ble_eq_true hb3) hd (fun H1 locs1 hP1 hD1 hS1 => ?_)
            rw [hset] at hP1 hD1
            exact k p la e s m args below meth c G ad0 A X H1 locs1 ad ls had hl (hP_set (e := cO ci (fs.set k0 v)) hP1) (hD_set (e := cO ci (fs.set k0 v)) hD1) hS1
          | false =>
            rw [hfin] at hr
            cases hr
            intro p la e s m args below meth c G ad0 A X H locs ad ls had hl hP hD hS
            obtain ⟨hx, hb, hml, hown, hts, hK, hamb, hA, -⟩ := id X
            obtain ⟨hn1, hf1⟩ := gfit_ok (ad := ad) hb2
            have hset : ∀ j : Nat, (fs.map (gmv ad)).set j (gmv ad v) = (fs.set j v).map (gmv ad) := fun j => by rw [List.map_set]
            rcases hlink with hlink | ⟨-, hlink⟩
            · refine va_put hx hb hts (gin hc7) (gyt ci) (gty hc7) (gnm hc7) hown hK hP hD hS a (gmw_of ho) (gcl_at hc7) k0 hkN (hts _ hlink) (fun x hf => by rw [hdecl] at hf; exact hf) hfin hty hn1 hf1 (by rw [List.length_map]; exact Nat.le_of_ble_eq_true hb3) hd (fun H1 locs1 hP1 hD1 hS1 => ?_)
              rw [hset] at hP1 hD1
              exact k p la e s m args below meth c G ad0 A X H1 locs1 ad ls had hl (hP_set (e := cO ci (fs.set k0 v)) hP1) (hD_set (e := cO ci (fs.set k0 v)) hD1) hS1
            · refine va_putN hx hb hts (gin hc7) (gyt ci) (gty hc7) (gnm hc7) hown hK hP hD hS a (gmw_of ho) (gcl_at hc7) k0 hkN (gNs_use hamb.2.2.2.2 _ hlink) (fun x hf => by rw [hdecl] at hf; exact hf) hfin hty hn1 hf1 (by rw [List.length_map]; exact Nat.le_of_ble_eq_true hb3) hd (fun H1 locs1 hP1 hD1 hS1 => ?_)
              rw [hset] at hP1 hD1
              exact k p la e s m args below meth c G ad0 A X H1 locs1 ad ls had hl (hP_set (e := cO ci (fs.set k0 v)) hP1) (hD_set (e := cO ci (fs.set k0 v)) hD1) hS1
      · cases hr
    · cases hr
  · cases hr
theorem gs_iaload  (hd : decode K.2.2.1 pc = .ok (.iaload, 1)) (hr : gal sc (pc + 1) l st h = some (pc', l', st', h', P)) (hp : gpr P) (k : gW K sc R n0 E cs ss pc' l' st' h') : gW K sc R n0 E cs ss pc l st h := by
  unfold gal at hr
  split at hr
  · rename_i i a r
    cases hb1 : Nat.ble 1000 a with
    | true =>
      rw [hb1] at hr
      dsimp only [cond] at hr
      cases hb2 : Nat.blt a 1004 with
      | false => rw [hb2] at hr; cases hr
      | true =>
        rw [hb2] at hr
        cases hr
        intro p la e s m args below meth c G ad0 A X H locs ad ls had hl hP hD hS
        obtain ⟨hx, hb, hml, hown, hts, hK, hamb, hA, -⟩ := id X
        obtain ⟨h1, h2, h3⟩ := gidx hb1 hb2
        have hT := hamb.2.1 (a - 1000) h2
        rw [h3, ← had a (Or.inr h1)] at hT
        exact va_ti hx hb hT hS hp rfl hd (k p la e s m args below meth c G ad0 A X H locs ad ls had hl hP hD hS)
    | false =>
      rw [hb1] at hr
      dsimp only [cond] at hr
      split at hr
      · rename_i n f ho
        cases hr
        intro p la e s m args below meth c G ad0 A X H locs ad ls had hl hP hD hS
        obtain ⟨hx, hb, hml, hown, hts, hK, hamb, hA, -⟩ := id X
        exact va_iald hx hb hK hP a 0 (gmw_of ho) rfl hp hd (k p la e s m args below meth c G ad0 A X H locs ad ls had hl hP hD hS)
      · cases hr
  · cases hr
theorem gs_laload  (hd : decode K.2.2.1 pc = .ok (.laload, 1)) (hr : glal (pc + 1) l st h = some (pc', l', st', h', P)) (hp : gpr P) (k : gW K sc R n0 E cs ss pc' l' st' h') : gW K sc R n0 E cs ss pc l st h := by
  unfold glal at hr
  split at hr
  · rename_i i a r
    split at hr
    · rename_i n f ho
      cases hr
      intro p la e s m args below meth c G ad0 A X H locs ad ls had hl hP hD hS
      obtain ⟨hx, hb, hml, hown, hts, hK, hamb, hA, -, hlk, -, hmn, -⟩ := id X
      exact va_lald hx hb hK hP a 1 (gmw_of ho) rfl hp hd (k p la e s m args below meth c G ad0 A X H locs ad ls had hl hP hD hS)
    · cases hr
  · cases hr
theorem gmv_rf (ad : Nat → Nat) (o : Option Nat) : gmv ad (va_rf o) = va_rf (o.map ad) := by cases o <;> rfl
theorem gs_aaload  (hd : decode K.2.2.1 pc = .ok (.aaload, 1)) (hr : graal (pc + 1) l st h = some (pc', l', st', h', P)) (hp : gpr P) (k : gW K sc R n0 E cs ss pc' l' st' h') : gW K sc R n0 E cs ss pc l st h := by
  unfold graal at hr
  split at hr
  · rename_i i a r
    split at hr
    · rename_i xs ho
      cases hr
      intro p la e s m args below meth c G ad0 A X H locs ad ls had hl hP hD hS
      obtain ⟨hx, hb, hml, hown, hts, hK, hamb, hA, -, hlk, -, hmn, -⟩ := id X
      refine va_aldq hx hb hK hP a 2 (gmw_of ho) rfl hp hd ?_
      rw [← gmv_rf]
      exact k p la e s m args below meth c G ad0 A X H locs ad ls had hl hP hD hS
    · cases hr
  · cases hr
theorem gs_iastore  (hd : decode K.2.2.1 pc = .ok (.iastore, 1)) (hr : gas (pc + 1) l st h = some (pc', l', st', h', P)) (hp : gpr P) (k : gW K sc R n0 E cs ss pc' l' st' h') : gW K sc R n0 E cs ss pc l st h := by
  unfold gas at hr
  split at hr
  · rename_i x i a r
    split at hr
    · rename_i n f ho
      cases hr
      intro p la e s m args below meth c G ad0 A X H locs ad ls had hl hP hD hS
      obtain ⟨hx, hb, hml, hown, hts, hK, hamb, hA, -, hlk, -, hmn, -⟩ := id X
      exact va_iast hx hb hK hP hD hS a 0 (gmw_of ho) rfl hp hd (fun H1 locs1 hP1 hD1 hS1 => k p la e s m args below meth c G ad0 A X H1 locs1 ad ls had hl (hP_set (e := cI n (upd f i.toNatClampNeg x)) hP1) (hD_set (e := cI n (upd f i.toNatClampNeg x)) hD1) hS1)
    · cases hr
  · cases hr
theorem gs_lastore  (hd : decode K.2.2.1 pc = .ok (.lastore, 1)) (hr : glas (pc + 1) l st h = some (pc', l', st', h', P)) (hp : gpr P) (k : gW K sc R n0 E cs ss pc' l' st' h') : gW K sc R n0 E cs ss pc l st h := by
  unfold glas at hr
  split at hr
  · rename_i x i a r
    split at hr
    · rename_i n f ho
      cases hr
      intro p la e s m args below meth c G ad0 A X H locs ad ls had hl hP hD hS
      obtain ⟨hx, hb, hml, hown, hts, hK, hamb, hA, -, hlk, -, hmn, -⟩ := id X
      exact va_last hx hb hK hP hD hS a 1 (gmw_of ho) rfl hp hd (fun H1 locs1 hP1 hD1 hS1 => k p la e s m args below meth c G ad0 A X H1 locs1 ad ls had hl (hP_set (e := cJ n (vp_updL f i.toNatClampNeg x)) hP1) (hD_set (e := cJ n (vp_updL f i.toNatClampNeg x)) hD1) hS1)
    · cases hr
  · cases hr
theorem gin_lt {x : Int32} {n : Nat} (h : vp_in x n) : x.toNatClampNeg < n := Nat.not_le.mp fun q => h (Or.inr q)
theorem gs_aastore  (hd : decode K.2.2.1 pc = .ok (.aastore, 1)) (hr : graas (pc + 1) l st h = some (pc', l', st', h', P)) (hp : gpr P) (k : gW K sc R n0 E cs ss pc' l' st' h') : gW K sc R n0 E cs ss pc l st h := by
  unfold graas at hr
  split at hr
  · rename_i v i a r
    split at hr
    · rename_i xs vs ho hv
      cases hr
      intro p la e s m args below meth c G ad0 A X H locs ad ls had hl hP hD hS
      obtain ⟨hx, hb, hml, hown, hts, hK, hamb, hA, -, hlk, -, hmn, -⟩ := id X
      refine va_astq hx hb hK hP hD hS a 2 v 2 (gmw_of ho) rfl (gmw_of hv) (gcl_at (i := 2) (by decide)) hp hd (fun H1 locs1 hP1 hD1 hS1 => ?_)
      have hfun : va_up (fun j => (xs.getD j none).map ad) i.toNatClampNeg (some (ad v)) = fun j => ((xs.set i.toNatClampNeg (some v)).getD j none).map ad := by
        funext j
        have hlt := gin_lt hp
        unfold va_up
        by_cases hj : j = i.toNatClampNeg
        · subst hj
          simp [hlt]
        · rw [if_neg hj]
          show (xs.getD j none).map ad = ((xs.set i.toNatClampNeg (some v)).getD j none).map ad
          rw [List.getD_eq_getElem?_getD, List.getD_eq_getElem?_getD, List.getElem?_set_ne (Ne.symm hj)]
      have he : ((G.2.2.2, xs.length, Sum.inr (Sum.inr (Sum.inr (Sum.inr (va_up (fun j => (xs.getD j none).map ad) i.toNatClampNeg (some (ad v))))))) : ClassId × vp_A) = (G.2.2.2, (xs.set i.toNatClampNeg (some v)).length, Sum.inr (Sum.inr (Sum.inr (Sum.inr (fun j => ((xs.set i.toNatClampNeg (some v)).getD j none).map ad))))) := by
        rw [hfun, List.length_set]
      rw [he] at hP1 hD1
      exact k p la e s m args below meth c G ad0 A X H1 locs1 ad ls had hl (hP_set (e := cR (xs.set i.toNatClampNeg (some v))) hP1) (hD_set (e := cR (xs.set i.toNatClampNeg (some v))) hD1) hS1
    · cases hr
  · cases hr
theorem gs_arraylength  (hd : decode K.2.2.1 pc = .ok (.arraylength, 1)) (hr : galen sc (pc + 1) l st h = some (pc', l', st', h', P)) (hp : gpr P) (k : gW K sc R n0 E cs ss pc' l' st' h') : gW K sc R n0 E cs ss pc l st h := by
  unfold galen at hr
  split at hr
  · rename_i a r
    cases hb1 : Nat.ble 1000 a with
    | true =>
      rw [hb1] at hr
      dsimp only [cond] at hr
      cases hb2 : Nat.blt a 1004 with
      | false => rw [hb2] at hr; cases hr
      | true =>
        rw [hb2] at hr
        cases hr
        intro p la e s m args below meth c G ad0 A X H locs ad ls had hl hP hD hS
        obtain ⟨hx, hb, hml, hown, hts, hK, hamb, hA, -⟩ := id X
        obtain ⟨h1, h2, h3⟩ := gidx hb1 hb2
        have hT := hamb.2.1 (a - 1000) h2
        rw [h3, ← had a (Or.inr h1)] at hT
        exact va_tlen hx hb hT hS rfl hd (k p la e s m args below meth c G ad0 A X H locs ad ls had hl hP hD hS)
    | false =>
      rw [hb1] at hr
      dsimp only [cond] at hr
      split at hr
      · rename_i n f ho
        cases hr
        intro p la e s m args below meth c G ad0 A X H locs ad ls had hl hP hD hS
        obtain ⟨hx, hb, hml, hown, hts, hK, hamb, hA, -⟩ := id X
        exact va_alen hx hb hK hP a 0 (gmw_of ho) rfl rfl hd (k p la e s m args below meth c G ad0 A X H locs ad ls had hl hP hD hS)
      · rename_i n f ho
        cases hr
        intro p la e s m args below meth c G ad0 A X H locs ad ls had hl hP hD hS
        obtain ⟨hx, hb, hml, hown, hts, hK, hamb, hA, -⟩ := id X
        exact va_alen hx hb hK hP a 1 (gmw_of ho) rfl rfl hd (k p la e s m args below meth c G ad0 A X H locs ad ls had hl hP hD hS)
      · rename_i xs ho
        cases hr
        intro p la e s m args below meth c G ad0 A X H locs ad ls had hl hP hD hS
        obtain ⟨hx, hb, hml, hown, hts, hK, hamb, hA, -⟩ := id X
        exact va_alen hx hb hK hP a 2 (gmw_of ho) rfl rfl hd (k p la e s m args below meth c G ad0 A X H locs ad ls had hl hP hD hS)
      · cases hr
  · cases hr
theorem gst_ok {i : Instr} (hd : decode K.2.2.1 pc = .ok (i, glen i)) (hr : gst K sc i pc l st h = some (pc', l', st', h', P)) (hp : gpr P) (k : gW K sc R n0 E cs ss pc' l' st' h') : gW K sc R n0 E cs ss pc l st h := by
  cases i with
  | iconst n => exact gs_iconst hd hr hp k
  | bipush n => exact gs_bipush hd hr hp k
  | sipush n => exact gs_sipush hd hr hp k
  | lconst n => exact gs_lconst hd hr hp k
  | aconst_null => exact gs_null hd hr hp k
  | dconst n => exact gs_dconst hd hr hp k
  | ldc2_w n => exact gs_ldc2 hd hr hp k
  | iload n => exact gs_iload hd hr hp k
  | iload_n n => exact gs_iload_n hd hr hp k
  | istore n => exact gs_istore hd hr hp k
  | istore_n n => exact gs_istore_n hd hr hp k
  | lload n => exact gs_lload hd hr hp k
  | lload_n n => exact gs_lload_n hd hr hp k
  | lstore n => exact gs_lstore hd hr hp k
  | lstore_n n => exact gs_lstore_n hd hr hp k
  | dload n => exact gs_dload hd hr hp k
  | dload_n n => exact gs_dload_n hd hr hp k
  | dstore n => exact gs_dstore hd hr hp k
  | dstore_n n => exact gs_dstore_n hd hr hp k
  | aload n => exact gs_aload hd hr hp k
  | aload_n n => exact gs_aload_n hd hr hp k
  | astore n => exact gs_astore hd hr hp k
  | astore_n n => exact gs_astore_n hd hr hp k
  | iinc n d => exact gs_iinc hd hr hp k
  | pop => exact gs_pop hd hr hp k
  | dup => exact gs_dup hd hr hp k
  | dup2 => exact gs_dup2 hd hr hp k
  | iadd => exact gs_iadd hd hr hp k
  | isub => exact gs_isub hd hr hp k
  | imul => exact gs_imul hd hr hp k
  | iand => exact gs_iand hd hr hp k
  | ladd => exact gs_ladd hd hr hp k
  | lsub => exact gs_lsub hd hr hp k
  | lmul => exact gs_lmul hd hr hp k
  | dmul => exact gs_dmul hd hr hp k
  | dsub => exact gs_dsub hd hr hp k
  | ddiv => exact gs_ddiv hd hr hp k
  | idiv => exact gs_idiv hd hr hp k
  | ineg => exact gs_ineg hd hr hp k
  | lshl => exact gs_lshl hd hr hp k
  | lcmp => exact gs_lcmp hd hr hp k
  | i2l => exact gs_i2l hd hr hp k
  | i2d => exact gs_i2d hd hr hp k
  | d2l => exact gs_d2l hd hr hp k
  | dcmp op => exact gs_dcmp hd hr hp k
  | goto d => exact gs_goto hd hr hp k
  | getstatic n => exact gs_getstatic hd hr hp k
  | getfield n => exact gs_getfield hd hr hp k
  | putfield n => exact gs_putfield hd hr hp k
  | iaload => exact gs_iaload hd hr hp k
  | laload => exact gs_laload hd hr hp k
  | aaload => exact gs_aaload hd hr hp k
  | iastore => exact gs_iastore hd hr hp k
  | lastore => exact gs_lastore hd hr hp k
  | aastore => exact gs_aastore hd hr hp k
  | arraylength => exact gs_arraylength hd hr hp k
  | _ => exact nomatch (show (none : Option gSt) = some _ from hr)
theorem gand_spec {P : Option Prop} {Q : Prop} (h : gand P Q) : gpr P ∧ Q := by
  cases P with
  | none => exact ⟨trivial, h⟩
  | some q => exact h
theorem grun_ok {P : Prop} : ∀ (b : List (Nat × Instr)) {pc : Nat} {l : gL} {st : List Value} {h : gH}, gdec K.2.2.1 b = true → grun K sc b pc l st h = some (pc', l', st', h', P) → P → gW K sc R n0 E cs ss pc' l' st' h' → gW K sc R n0 E cs ss pc l st h
  | [], _, _, _, _, _, hr, _, k => by cases hr; exact k
  | q :: r, pc, l, st, h, hd, hr, hP, k => by
    simp only [gdec, Bool.and_eq_true, decide_eq_true_eq] at hd
    unfold grun at hr
    cases hb1 : Nat.beq q.1 pc with
    | false => rw [hb1] at hr; cases hr
    | true =>
      rw [hb1] at hr
      dsimp only [cond] at hr
      have hq : q.1 = pc := Nat.eq_of_beq_eq_true hb1
      split at hr
      · rename_i pc1 l1 st1 h1 P1 h9
        split at hr
        · rename_i pc2 l2 st2 h2 P2 h8
          cases hr
          obtain ⟨hp1, hp2⟩ := gand_spec hP
          exact gst_ok (hq ▸ hd.1) h9 hp1 (grun_ok r hd.2 h8 hp2 k)
        · cases hr
      · cases hr
theorem gdec_at {cc : ByteArray} : ∀ {t : List (Nat × Instr)}, gdec cc t = true → ∀ (k : Nat) {q : Nat} {i : Instr}, t[k]? = some (q, i) → decode cc q = .ok (i, glen i)
  | [], _, k, q, i, hk => by simp at hk
  | x :: r, h, 0, q, i, hk => by
    simp only [gdec, Bool.and_eq_true, decide_eq_true_eq] at h
    cases hk
    exact h.1
  | x :: r, h, k + 1, q, i, hk => by
    simp only [gdec, Bool.and_eq_true, decide_eq_true_eq] at h
    exact gdec_at h.2 k hk
theorem gdec_sub {cc : ByteArray} : ∀ {t b : List (Nat × Instr)}, (∀ x ∈ b, x ∈ t) → gdec cc t = true → gdec cc b = true := by
  intro t b hs ht
  have h1 : ∀ {t : List (Nat × Instr)}, gdec cc t = true → ∀ x ∈ t, decode cc x.1 = .ok (x.2, glen x.2) := by
    intro t
    induction t with
    | nil => intro _ x hx; cases hx
    | cons q r ih =>
      intro h x hx
      simp only [gdec, Bool.and_eq_true, decide_eq_true_eq] at h
      rcases List.mem_cons.mp hx with rfl | hx
      · exact h.1
      · exact ih h.2 x hx
  have h2 := h1 ht
  clear ht h1
  induction b with
  | nil => rfl
  | cons q r ih =>
    simp only [gdec, Bool.and_eq_true, decide_eq_true_eq]
    exact ⟨h2 q (hs q List.mem_cons_self), ih (fun x hx => hs x (List.mem_cons_of_mem _ hx))⟩
/-- a stretch without a branch: instructions a to a + n of the method's row T -/
theorem gW_b {T : List (Nat × Instr)} (hT : gdec K.2.2.1 T = true) (a n : Nat) {P : Prop} (hr : grun K sc ((T.drop a).take n) pc l st h = some (pc', l', st', h', P)) (hP : P) (k : gW K sc R n0 E cs ss pc' l' st' h') : gW K sc R n0 E cs ss pc l st h :=
  grun_ok _ (gdec_sub (fun x hx => List.mem_of_mem_drop (List.mem_of_mem_take hx)) hT) hr hP k
end GS
end
section
/-! BRANCHES, ENDS, CALLS of the abstract machine -/
def gEx (j : Nat) : String × Nat × Nat := match j with
  | 0 => ("java/lang/IndexOutOfBoundsException", 308, 312)
  | 1 => ("java/lang/IllegalArgumentException", 73, 77)
  | _ => ("java/lang/IllegalStateException", 52, 56)
abbrev gXn : List String := ["java/lang/RuntimeException", "java/lang/Exception"]
theorem gEx_0 : ∀ w ∈ vx_atS "GoldSheets" 312 "java/lang/IndexOutOfBoundsException" gXn, w ∈ gTs ∨ w ∈ gNs := by decide +kernel
theorem gEx_1 : ∀ w ∈ vx_atS "GoldSheets" 77 "java/lang/IllegalArgumentException" gXn, w ∈ gTs ∨ w ∈ gNs := by decide +kernel
theorem gEx_2 : ∀ w ∈ vx_atS "GoldSheets" 56 "java/lang/IllegalStateException" gXn, w ∈ gTs ∨ w ∈ gNs := by decide +kernel
theorem gEx_g0 : ∀ w ∈ Cond.classLink "GoldSheets" 308 "java/lang/IndexOutOfBoundsException" :: Cond.initialized "java/lang/IndexOutOfBoundsException" :: vx_atS "GoldSheets" 312 "java/lang/IndexOutOfBoundsException" gXn, vx_ot w = true := by decide +kernel
theorem gEx_g1 : ∀ w ∈ Cond.classLink "GoldSheets" 73 "java/lang/IllegalArgumentException" :: Cond.initialized "java/lang/IllegalArgumentException" :: vx_atS "GoldSheets" 77 "java/lang/IllegalArgumentException" gXn, vx_ot w = true := by decide +kernel
theorem gEx_g2 : ∀ w ∈ Cond.classLink "GoldSheets" 52 "java/lang/IllegalStateException" :: Cond.initialized "java/lang/IllegalStateException" :: vx_atS "GoldSheets" 56 "java/lang/IllegalStateException" gXn, vx_ot w = true := by decide +kernel
theorem gEx_ws : ∀ w ∈ [Cond.classLink "GoldSheets" 308 "java/lang/IndexOutOfBoundsException", .initialized "java/lang/IndexOutOfBoundsException", .classLink "GoldSheets" 73 "java/lang/IllegalArgumentException", .initialized "java/lang/IllegalArgumentException", .classLink "GoldSheets" 52 "java/lang/IllegalStateException", .initialized "java/lang/IllegalStateException"], w ∈ gTs := by decide +kernel
/-- the three exceptions: what vx_throwS wants of the words -/
def gExP (ik ic : Nat) (cls : String) : Prop := Bundle.fit cls = true ∧ Cond.classLink "GoldSheets" ik cls ∈ gTs ∧ Cond.initialized cls ∈ gTs ∧ (∀ w ∈ vx_atS "GoldSheets" ic cls gXn, w ∈ gTs ∨ w ∈ gNs) ∧ (∀ w ∈ Cond.classLink "GoldSheets" ik cls :: Cond.initialized cls :: vx_atS "GoldSheets" ic cls gXn, vx_ot w = true)
theorem gExP_0 : gExP 308 312 "java/lang/IndexOutOfBoundsException" := ⟨by decide +kernel, gEx_ws _ (by simp), gEx_ws _ (by simp), gEx_0, gEx_g0⟩
theorem gExP_1 : gExP 73 77 "java/lang/IllegalArgumentException" := ⟨by decide +kernel, gEx_ws _ (by simp), gEx_ws _ (by simp), gEx_1, gEx_g1⟩
theorem gExP_2 : gExP 52 56 "java/lang/IllegalStateException" := ⟨by decide +kernel, gEx_ws _ (by simp), gEx_ws _ (by simp), gEx_2, gEx_g2⟩
theorem gXn_fit : ∀ n ∈ gXn, Bundle.fit n = true := by decide +kernel
end
section
/-! THE RULES: how a frame branches, ends, calls -/
/-- a value's, a cell's references are cells of the first n, or outer ones -/
def gwv (n : Nat) (v : Value) : Bool := match v with
  | .ref k => Nat.blt k n || Nat.ble 1000 k
  | _ => true
def gwf (n : Nat) (e : gC) : Bool := match e with
  | .inr (.inr (.inl xs)) => xs.all (fun o => match o with | some k => Nat.blt k n || Nat.ble 1000 k | none => true)
  | .inr (.inr (.inr (_, fs))) => fs.all (gwv n)
  | _ => true
theorem gor_lt {n k : Nat} (h : (Nat.blt k n || Nat.ble 1000 k) = true) : k < n ∨ 1000 ≤ k := by
  simp only [Bool.or_eq_true] at h
  rcases h with h | h
  · exact Or.inl (Nat.le_of_ble_eq_true h)
  · exact Or.inr (Nat.le_of_ble_eq_true h)
theorem gmv_congr {n : Nat} {ad ad' : Nat → Nat} (ha : ∀ k, (k < n ∨ 1000 ≤ k) → ad k = ad' k) {v : Value} (h : gwv n v = true) : gmv ad v = gmv ad' v := by
  cases v with
  | ref k => exact congrArg Value.ref (ha k (gor_lt h))
  | _ => rfl
theorem gmc_congr {n : Nat} {G : gG} {ad ad' : Nat → Nat} (ha : ∀ k, (k < n ∨ 1000 ≤ k) → ad k = ad' k) {e : gC} (h : gwf n e = true) : gmc G ad e = gmc G ad' e := by
  rcases e with ⟨k, f⟩ | ⟨k, f⟩ | xs | ⟨ci, fs⟩
  · rfl
  · rfl
  · have h1 : (fun i => (xs.getD i none).map ad) = fun i => (xs.getD i none).map ad' := by
      funext i
      cases hx : xs.getD i none with
      | none => rfl
      | some k =>
        have hm : some k ∈ xs := by
          rw [List.getD_eq_getElem?_getD] at hx
          cases h2 : xs[i]? with
          | none => rw [h2] at hx; cases hx
          | some o => rw [h2] at hx; cases hx; exact List.mem_of_getElem? h2
        have := List.all_eq_true.mp h _ hm
        exact congrArg some (ha k (gor_lt this))
    show (Sum.inl (G.2.2.2, xs.length, Sum.inr (Sum.inr (Sum.inr (Sum.inr _)))) : va_E) = Sum.inl (G.2.2.2, xs.length, Sum.inr (Sum.inr (Sum.inr (Sum.inr _))))
    rw [h1]
  · show (Sum.inr (ci, fs.map (gmv ad)) : va_E) = Sum.inr (ci, fs.map (gmv ad'))
    rw [List.map_congr_left (fun v hv => gmv_congr ha (List.all_eq_true.mp h v hv))]
theorem gmw_congr {n : Nat} {G : gG} {ad ad' : Nat → Nat} (ha : ∀ k, (k < n ∨ 1000 ≤ k) → ad k = ad' k) {h : gH} (hl : h.length ≤ n) (hw : h.all (gwf n) = true) : gmw G ad h = gmw G ad' h := by
  apply List.ext_getElem?
  intro j
  rw [gmw_at, gmw_at]
  cases hj : h[j]? with
  | none => rfl
  | some e =>
    have h1 : j < h.length := (List.getElem?_eq_some_iff.mp hj).1
    show some (ad j, gmc G ad e) = some (ad' j, gmc G ad' e)
    rw [ha j (Or.inl (by omega)), gmc_congr ha (List.all_eq_true.mp hw e (List.mem_of_getElem? hj))]
section GR
variable {K : gK} {sc : Nat × (Nat → Int32)} {R : Room} {n0 : Nat} {E : gO → gH → Prop} {cs ss pc : Nat} {l : gL} {st : List Value} {h : gH}
/-- fewer locals are known -/
theorem gW_l (ks : List Nat) {l' : gL} (hl : lv_pick l ks = l') (k : gW K sc R n0 E cs ss pc l' st h) : gW K sc R n0 E cs ss pc l st h := by
  intro p la e s m args below meth c G ad0 A X H locs ad ls had hls hP hD hS
  refine k p la e s m args below meth c G ad0 A X H locs ad ls had ⟨hls.1, hls.2.1, fun q hq => ?_⟩ hP hD hS
  obtain ⟨x, hx, rfl⟩ := List.mem_map.mp hq
  subst hl
  obtain ⟨i, -, hi⟩ := List.mem_filterMap.mp hx
  exact hls.2.2 _ (gml_mem (List.mem_of_getElem? hi))
/-- the counts of what is new may be put higher -/
theorem gW_n {cs' ss' : Nat} (h1 : cs ≤ cs') (h2 : ss ≤ ss') (k : gW K sc R n0 E cs' ss' pc l st h) : gW K sc R n0 E cs ss pc l st h := by
  intro p la e s m args below meth c G ad0 A X H locs ad ls had hl hP hD hS
  exact W.widen h1 h2 (k p la e s m args below meth c G ad0 A X H locs ad ls had hl hP hD hS)
theorem gW_post {E' : gO → gH → Prop} (hE : ∀ o h, E' o h → E o h) (k : gW K sc R n0 E' cs ss pc l st h) : gW K sc R n0 E cs ss pc l st h := by
  intro p la e s m args below meth c G ad0 A X H locs ad ls had hl hP hD hS T hT Xs
  obtain ⟨t, a1, o, b1, b2, b3⟩ := k p la e s m args below meth c G ad0 A X H locs ad ls had hl hP hD hS T hT Xs
  refine ⟨t, a1, o, b1, b2, ?_⟩
  rcases b3 with ⟨⟨⟨ad', v, h', q1, q2, q3⟩, q4⟩, q5⟩ | ⟨q, q1, E0, ce, L, ⟨⟨h', r1, r2⟩, r3⟩, q2⟩
  · exact Or.inl ⟨⟨⟨ad', v, h', q1, hE _ _ q2, q3⟩, q4⟩, q5⟩
  · exact Or.inr ⟨q, q1, E0, ce, L, ⟨⟨h', hE _ _ r1, r2⟩, r3⟩, q2⟩
theorem gW_if_eq {x : Int32} {off : Int} {tgt : Nat} (hd : decode K.2.2.1 pc = .ok (.ifCond .eq off, 3)) (ht : (pc : Int) + off = (tgt : Int)) (kt : x = 0 → gW K sc R n0 E cs ss tgt l st h) (kf : ¬ (x = 0) → gW K sc R n0 E cs ss (pc + 3) l st h) : gW K sc R n0 E cs ss pc l (.int x :: st) h := by
  intro p la e s m args below meth c G ad0 A X H locs ad ls had hl hP hD hS
  obtain ⟨hx, hb, -⟩ := id X
  exact lv_if_eq hx hb hd ht (fun z => kt z p la e s m args below meth c G ad0 A X H locs ad ls had hl hP hD hS) (fun z => kf z p la e s m args below meth c G ad0 A X H locs ad ls had hl hP hD hS)
theorem gW_ic_eq {x y : Int32} {off : Int} {tgt : Nat} (hd : decode K.2.2.1 pc = .ok (.if_icmp .eq off, 3)) (ht : (pc : Int) + off = (tgt : Int)) (kt : x = y → gW K sc R n0 E cs ss tgt l st h) (kf : ¬ (x = y) → gW K sc R n0 E cs ss (pc + 3) l st h) : gW K sc R n0 E cs ss pc l (.int y :: .int x :: st) h := by
  intro p la e s m args below meth c G ad0 A X H locs ad ls had hl hP hD hS
  obtain ⟨hx, hb, -⟩ := id X
  exact lv_icmp_eq hx hb hd ht (fun z => kt z p la e s m args below meth c G ad0 A X H locs ad ls had hl hP hD hS) (fun z => kf z p la e s m args below meth c G ad0 A X H locs ad ls had hl hP hD hS)
theorem gW_if_ne {x : Int32} {off : Int} {tgt : Nat} (hd : decode K.2.2.1 pc = .ok (.ifCond .ne off, 3)) (ht : (pc : Int) + off = (tgt : Int)) (kt : ¬ x = 0 → gW K sc R n0 E cs ss tgt l st h) (kf : x = 0 → gW K sc R n0 E cs ss (pc + 3) l st h) : gW K sc R n0 E cs ss pc l (.int x :: st) h := by
  intro p la e s m args below meth c G ad0 A X H locs ad ls had hl hP hD hS
  obtain ⟨hx, hb, -⟩ := id X
  exact lv_if_ne hx hb hd ht (fun z => kt z p la e s m args below meth c G ad0 A X H locs ad ls had hl hP hD hS) (fun z => kf z p la e s m args below meth c G ad0 A X H locs ad ls had hl hP hD hS)
theorem gW_ic_ne {x y : Int32} {off : Int} {tgt : Nat} (hd : decode K.2.2.1 pc = .ok (.if_icmp .ne off, 3)) (ht : (pc : Int) + off = (tgt : Int)) (kt : ¬ x = y → gW K sc R n0 E cs ss tgt l st h) (kf : x = y → gW K sc R n0 E cs ss (pc + 3) l st h) : gW K sc R n0 E cs ss pc l (.int y :: .int x :: st) h := by
  intro p la e s m args below meth c G ad0 A X H locs ad ls had hl hP hD hS
  obtain ⟨hx, hb, -⟩ := id X
  exact lv_icmp_ne hx hb hd ht (fun z => kt z p la e s m args below meth c G ad0 A X H locs ad ls had hl hP hD hS) (fun z => kf z p la e s m args below meth c G ad0 A X H locs ad ls had hl hP hD hS)
theorem gW_if_lt {x : Int32} {off : Int} {tgt : Nat} (hd : decode K.2.2.1 pc = .ok (.ifCond .lt off, 3)) (ht : (pc : Int) + off = (tgt : Int)) (kt : x < 0 → gW K sc R n0 E cs ss tgt l st h) (kf : ¬ (x < 0) → gW K sc R n0 E cs ss (pc + 3) l st h) : gW K sc R n0 E cs ss pc l (.int x :: st) h := by
  intro p la e s m args below meth c G ad0 A X H locs ad ls had hl hP hD hS
  obtain ⟨hx, hb, -⟩ := id X
  exact lv_if_lt hx hb hd ht (fun z => kt z p la e s m args below meth c G ad0 A X H locs ad ls had hl hP hD hS) (fun z => kf z p la e s m args below meth c G ad0 A X H locs ad ls had hl hP hD hS)
theorem gW_ic_lt {x y : Int32} {off : Int} {tgt : Nat} (hd : decode K.2.2.1 pc = .ok (.if_icmp .lt off, 3)) (ht : (pc : Int) + off = (tgt : Int)) (kt : x < y → gW K sc R n0 E cs ss tgt l st h) (kf : ¬ (x < y) → gW K sc R n0 E cs ss (pc + 3) l st h) : gW K sc R n0 E cs ss pc l (.int y :: .int x :: st) h := by
  intro p la e s m args below meth c G ad0 A X H locs ad ls had hl hP hD hS
  obtain ⟨hx, hb, -⟩ := id X
  exact lv_icmp_lt hx hb hd ht (fun z => kt z p la e s m args below meth c G ad0 A X H locs ad ls had hl hP hD hS) (fun z => kf z p la e s m args below meth c G ad0 A X H locs ad ls had hl hP hD hS)
theorem gW_if_ge {x : Int32} {off : Int} {tgt : Nat} (hd : decode K.2.2.1 pc = .ok (.ifCond .ge off, 3)) (ht : (pc : Int) + off = (tgt : Int)) (kt : 0 ≤ x → gW K sc R n0 E cs ss tgt l st h) (kf : ¬ (0 ≤ x) → gW K sc R n0 E cs ss (pc + 3) l st h) : gW K sc R n0 E cs ss pc l (.int x :: st) h := by
  intro p la e s m args below meth c G ad0 A X H locs ad ls had hl hP hD hS
  obtain ⟨hx, hb, -⟩ := id X
  exact lv_if_ge hx hb hd ht (fun z => kt z p la e s m args below meth c G ad0 A X H locs ad ls had hl hP hD hS) (fun z => kf z p la e s m args below meth c G ad0 A X H locs ad ls had hl hP hD hS)
theorem gW_ic_ge {x y : Int32} {off : Int} {tgt : Nat} (hd : decode K.2.2.1 pc = .ok (.if_icmp .ge off, 3)) (ht : (pc : Int) + off = (tgt : Int)) (kt : y ≤ x → gW K sc R n0 E cs ss tgt l st h) (kf : ¬ (y ≤ x) → gW K sc R n0 E cs ss (pc + 3) l st h) : gW K sc R n0 E cs ss pc l (.int y :: .int x :: st) h := by
  intro p la e s m args below meth c G ad0 A X H locs ad ls had hl hP hD hS
  obtain ⟨hx, hb, -⟩ := id X
  exact lv_icmp_ge hx hb hd ht (fun z => kt z p la e s m args below meth c G ad0 A X H locs ad ls had hl hP hD hS) (fun z => kf z p la e s m args below meth c G ad0 A X H locs ad ls had hl hP hD hS)
theorem gW_if_gt {x : Int32} {off : Int} {tgt : Nat} (hd : decode K.2.2.1 pc = .ok (.ifCond .gt off, 3)) (ht : (pc : Int) + off = (tgt : Int)) (kt : 0 < x → gW K sc R n0 E cs ss tgt l st h) (kf : ¬ (0 < x) → gW K sc R n0 E cs ss (pc + 3) l st h) : gW K sc R n0 E cs ss pc l (.int x :: st) h := by
  intro p la e s m args below meth c G ad0 A X H locs ad ls had hl hP hD hS
  obtain ⟨hx, hb, -⟩ := id X
  exact lv_if_gt hx hb hd ht (fun z => kt z p la e s m args below meth c G ad0 A X H locs ad ls had hl hP hD hS) (fun z => kf z p la e s m args below meth c G ad0 A X H locs ad ls had hl hP hD hS)
theorem gW_ic_gt {x y : Int32} {off : Int} {tgt : Nat} (hd : decode K.2.2.1 pc = .ok (.if_icmp .gt off, 3)) (ht : (pc : Int) + off = (tgt : Int)) (kt : y < x → gW K sc R n0 E cs ss tgt l st h) (kf : ¬ (y < x) → gW K sc R n0 E cs ss (pc + 3) l st h) : gW K sc R n0 E cs ss pc l (.int y :: .int x :: st) h := by
  intro p la e s m args below meth c G ad0 A X H locs ad ls had hl hP hD hS
  obtain ⟨hx, hb, -⟩ := id X
  exact lv_icmp_gt hx hb hd ht (fun z => kt z p la e s m args below meth c G ad0 A X H locs ad ls had hl hP hD hS) (fun z => kf z p la e s m args below meth c G ad0 A X H locs ad ls had hl hP hD hS)
theorem gW_if_le {x : Int32} {off : Int} {tgt : Nat} (hd : decode K.2.2.1 pc = .ok (.ifCond .le off, 3)) (ht : (pc : Int) + off = (tgt : Int)) (kt : x ≤ 0 → gW K sc R n0 E cs ss tgt l st h) (kf : ¬ (x ≤ 0) → gW K sc R n0 E cs ss (pc + 3) l st h) : gW K sc R n0 E cs ss pc l (.int x :: st) h := by
  intro p la e s m args below meth c G ad0 A X H locs ad ls had hl hP hD hS
  obtain ⟨hx, hb, -⟩ := id X
  exact lv_if_le hx hb hd ht (fun z => kt z p la e s m args below meth c G ad0 A X H locs ad ls had hl hP hD hS) (fun z => kf z p la e s m args below meth c G ad0 A X H locs ad ls had hl hP hD hS)
theorem gW_ic_le {x y : Int32} {off : Int} {tgt : Nat} (hd : decode K.2.2.1 pc = .ok (.if_icmp .le off, 3)) (ht : (pc : Int) + off = (tgt : Int)) (kt : x ≤ y → gW K sc R n0 E cs ss tgt l st h) (kf : ¬ (x ≤ y) → gW K sc R n0 E cs ss (pc + 3) l st h) : gW K sc R n0 E cs ss pc l (.int y :: .int x :: st) h := by
  intro p la e s m args below meth c G ad0 A X H locs ad ls had hl hP hD hS
  obtain ⟨hx, hb, -⟩ := id X
  exact lv_icmp_le hx hb hd ht (fun z => kt z p la e s m args below meth c G ad0 A X H locs ad ls had hl hP hD hS) (fun z => kf z p la e s m args below meth c G ad0 A X H locs ad ls had hl hP hD hS)
/-- the answer is an int (or a boolean, a char ..) -/
theorem gW_iret {x : Int32} {ty : FieldType} (hd : decode K.2.2.1 pc = .ok (.ireturn, 1)) (hr : K.2.2.2.2.1 = some ty) (hn : narrow ty (.int x) = .int x) (hlen : n0 ≤ h.length) (hE : E (.inl (some (.int x))) h) (hc : cs ≤ R.cells) (hs : ss ≤ R.slots) : gW K sc R n0 E cs ss pc l [.int x] h := by
  intro p la e s m args below meth c G ad0 A X H locs ad ls had hl hP hD hS
  obtain ⟨hx, hb, hml, hown, hts, hK, hamb, hA, -, hlk, hrt, -⟩ := id X
  refine W.widen hc hs (vx_ret ?_)
  exact W.zret hx hb (hrt.trans hr) hn (fun t ht _ => ⟨⟨ad, some (.int x), h, rfl, hE, hlen, had, by rw [ht]; exact hP, hD⟩, hS.F ht⟩) hS.2.2 hd hlk
theorem gW_lret {x : Int64} (hd : decode K.2.2.1 pc = .ok (.lreturn, 1)) (hr : K.2.2.2.2.1 = some .long) (hlen : n0 ≤ h.length) (hE : E (.inl (some (.long x))) h) (hc : cs ≤ R.cells) (hs : ss ≤ R.slots) : gW K sc R n0 E cs ss pc l [.long x] h := by
  intro p la e s m args below meth c G ad0 A X H locs ad ls had hl hP hD hS
  obtain ⟨hx, hb, hml, hown, hts, hK, hamb, hA, -, hlk, hrt, -⟩ := id X
  refine W.widen hc hs (vx_ret ?_)
  exact W.lret hx hb (hrt.trans hr) (fun t ht _ => ⟨⟨ad, some (.long x), h, rfl, hE, hlen, had, by rw [ht]; exact hP, hD⟩, hS.F ht⟩) hS.2.2 hd hlk
theorem gW_dret {x : UInt64} (hd : decode K.2.2.1 pc = .ok (.dreturn, 1)) (hr : K.2.2.2.2.1 = some .double) (hlen : n0 ≤ h.length) (hE : E (.inl (some (.double x))) h) (hc : cs ≤ R.cells) (hs : ss ≤ R.slots) : gW K sc R n0 E cs ss pc l [.double x] h := by
  intro p la e s m args below meth c G ad0 A X H locs ad ls had hl hP hD hS
  obtain ⟨hx, hb, hml, hown, hts, hK, hamb, hA, -, hlk, hrt, -⟩ := id X
  refine W.widen hc hs (vx_ret ?_)
  exact W.dret hx hb (hrt.trans hr) (fun t ht _ => ⟨⟨ad, some (.double x), h, rfl, hE, hlen, had, by rw [ht]; exact hP, hD⟩, hS.F ht⟩) hS.2.2 hd hlk
theorem gW_vret (hd : decode K.2.2.1 pc = .ok (.return_, 1)) (hr : K.2.2.2.2.1 = none) (hlen : n0 ≤ h.length) (hE : E (.inl none) h) (hc : cs ≤ R.cells) (hs : ss ≤ R.slots) : gW K sc R n0 E cs ss pc l [] h := by
  intro p la e s m args below meth c G ad0 A X H locs ad ls had hl hP hD hS
  obtain ⟨hx, hb, hml, hown, hts, hK, hamb, hA, -, hlk, hrt, -⟩ := id X
  refine W.widen hc hs (vx_ret ?_)
  exact W.vret hx hb (hrt.trans hr) (fun t ht _ => ⟨⟨ad, none, h, rfl, hE, hlen, had, by rw [ht]; exact hP, hD⟩, hS.F ht⟩) hS.2.2 hd hlk
theorem gW_aret {a : Nat} {C : String} (hd : decode K.2.2.1 pc = .ok (.areturn, 1)) (hr : K.2.2.2.2.1 = some (.object C)) (hlen : n0 ≤ h.length) (hE : E (.inl (some (.ref a))) h) (hc : cs ≤ R.cells) (hs : ss ≤ R.slots) : gW K sc R n0 E cs ss pc l [.ref a] h := by
  intro p la e s m args below meth c G ad0 A X H locs ad ls had hl hP hD hS
  obtain ⟨hx, hb, hml, hown, hts, hK, hamb, hA, -, hlk, hrt, -⟩ := id X
  refine W.widen hc hs (vx_ret ?_)
  exact W.aret hx hb (hrt.trans hr) (Or.inl ⟨_, rfl⟩) (Or.inr ⟨_, rfl⟩) (fun t ht _ => ⟨⟨ad, some (.ref a), h, rfl, hE, hlen, had, by rw [ht]; exact hP, hD⟩, hS.F ht⟩) hS.2.2 hd hlk
theorem gW_tin {dflt lo hi : Int} {offs : Array Int} {len : Nat} {x : Int32} {off : Int} {tgt : Nat} (hd : decode K.2.2.1 pc = .ok (.tableswitch dflt lo hi offs, len)) (h1 : ¬ x.toInt < lo) (h2 : ¬ hi < x.toInt) (ho : offs[(x.toInt - lo).toNat]? = some off) (ht : (pc : Int) + off = (tgt : Int)) (k : gW K sc R n0 E cs ss tgt l st h) : gW K sc R n0 E cs ss pc l (.int x :: st) h := by
  intro p la e s m args below meth c G ad0 A X H locs ad ls had hl hP hD hS
  obtain ⟨hx, hb, -⟩ := id X
  exact lv_tableIn hx hb hd h1 h2 ho ht (k p la e s m args below meth c G ad0 A X H locs ad ls had hl hP hD hS)
theorem gW_tout {dflt lo hi : Int} {offs : Array Int} {len : Nat} {x : Int32} {tgt : Nat} (hd : decode K.2.2.1 pc = .ok (.tableswitch dflt lo hi offs, len)) (h1 : x.toInt < lo ∨ hi < x.toInt) (ht : (pc : Int) + dflt = (tgt : Int)) (k : gW K sc R n0 E cs ss tgt l st h) : gW K sc R n0 E cs ss pc l (.int x :: st) h := by
  intro p la e s m args below meth c G ad0 A X H locs ad ls had hl hP hD hS
  obtain ⟨hx, hb, -⟩ := id X
  exact lv_tableOut hx hb hd h1 ht (k p la e s m args below meth c G ad0 A X H locs ad ls had hl hP hD hS)
theorem gW_nn {a : Nat} {off : Int} (hd : decode K.2.2.1 pc = .ok (.ifnull off, 3)) (k : gW K sc R n0 E cs ss (pc + 3) l st h) : gW K sc R n0 E cs ss pc l (.ref a :: st) h := by
  intro p la e s m args below meth c G ad0 A X H locs ad ls had hl hP hD hS
  obtain ⟨hx, hb, -⟩ := id X
  exact lv_ifnull hx hb hd (k p la e s m args below meth c G ad0 A X H locs ad ls had hl hP hD hS)
theorem gcats (ad : Nat → Nat) (st : List Value) : ((st.map (gmv ad)).map fun v => v.category) = st.map fun v => v.category := by
  rw [List.map_map]
  exact List.map_congr_left fun v _ => gmv_cat ad v
/-- throw new X("..") in the class GoldSheets -/
theorem gW_throw {o : Nat} {y : MethodName} {cc : ByteArray} {nL : Nat} {ret : Option FieldType} {ik ic is : Nat} {cls text : String} (hgx : gExP ik ic cls) (ho : o = 5) (hstr : ("GoldSheets", is, text) ∈ gStr)
    (d0 : decode cc pc = .ok (.new ik, 3)) (d3 : decode cc (pc + 3) = .ok (.dup, 1)) (d4 : decode cc (pc + 4) = .ok (.ldc is, 2)) (d6 : decode cc (pc + 6) = .ok (.invokespecial ic, 3)) (d9 : decode cc (pc + 9) = .ok (.athrow, 1))
    (hlen : h.length = n0) (hw : h.all (gwf n0) = true) (hE : E (.inr cls) h) (hRf : 5 < R.frames) (hRl : (st.map fun v => v.category).sum + 82 ≤ R.locals) (hRc : cs + 1 ≤ R.cells) (hRs : ss + 6 ≤ R.slots) : gW (o, y, cc, nL, ret, []) sc R n0 E cs ss pc l st h := by
  intro p la e s m args below meth c G ad0 A X H locs ad ls had hl hP hD hS
  obtain ⟨hx, hb, hml, hown, hts, hK, hamb, hA, hla, hlk, hrt, hnm, htb⟩ := id X
  subst ho
  obtain ⟨a, ha⟩ := hamb.2.2.2.1 _ hstr
  obtain ⟨g1, g2, g3, g4, g5⟩ := hgx
  have hbef : ∀ w, (w ∈ gTs ∨ w ∈ gNs) → w.before args s = true := fun w hw => hw.elim (hts w) (gNs_use hamb.2.2.2.2 w)
  have hcg : gmw G ad h = gmw G ad0 h := gmw_congr (n := n0) had (Nat.le_of_eq hlen) hw
  refine vx_throwS hx hb hla hown g1 gXn_fit (hts _ g2) (hts _ g3) ha (fun w hw => hbef w (g4 w hw)) g5 hamb.1.1 hamb.1.2 hS (hl.1.trans hml.symm) d0 d3 d4 d6 d9 ?_ hRf ?_ hRc hRs hlk ?_ hS.2.2 hRc hRs
  · intro x hx
    rw [htb] at hx
    cases hx
  · rw [gcats]
    exact hRl
  · intro t hvm hsz hk
    have hkeep : ∀ q : Nat, q < H.size → t.heap[q]? = H[q]? := hk
    refine ⟨⟨h, hE, hlen, ?_, ?_⟩, ?_⟩
    · rw [← hcg]
      exact hP.kept (fun k q hq => hkeep q.1 (hP k q hq).lt)
    · rw [← hcg]
      exact hD
    · exact ⟨Nat.le_trans hS.1 hsz, fun q hq hqA => by rw [hkeep q (Nat.lt_of_lt_of_le hq hS.1)]; exact hS.2.1 q hq hqA⟩
theorem gW_throwW {o : Nat} {y : MethodName} {cc : ByteArray} {nL : Nat} {ret : Option FieldType} {ik ic is : Nat} {cls text : String} (hgx : gExP ik ic cls) (ho : o = 5) (hstr : ("GoldSheets", is, text) ∈ gStr)
    (d0 : decode cc pc = .ok (.new ik, 3)) (d3 : decode cc (pc + 3) = .ok (.dup, 1)) (d4 : decode cc (pc + 4) = .ok (.ldc_w is, 3)) (d6 : decode cc (pc + 7) = .ok (.invokespecial ic, 3)) (d9 : decode cc (pc + 10) = .ok (.athrow, 1))
    (hlen : h.length = n0) (hw : h.all (gwf n0) = true) (hE : E (.inr cls) h) (hRf : 5 < R.frames) (hRl : (st.map fun v => v.category).sum + 82 ≤ R.locals) (hRc : cs + 1 ≤ R.cells) (hRs : ss + 6 ≤ R.slots) : gW (o, y, cc, nL, ret, []) sc R n0 E cs ss pc l st h := by
  intro p la e s m args below meth c G ad0 A X H locs ad ls had hl hP hD hS
  obtain ⟨hx, hb, hml, hown, hts, hK, hamb, hA, hla, hlk, hrt, hnm, htb⟩ := id X
  subst ho
  obtain ⟨a, ha⟩ := hamb.2.2.2.1 _ hstr
  obtain ⟨g1, g2, g3, g4, g5⟩ := hgx
  have hbef : ∀ w, (w ∈ gTs ∨ w ∈ gNs) → w.before args s = true := fun w hw => hw.elim (hts w) (gNs_use hamb.2.2.2.2 w)
  have hcg : gmw G ad h = gmw G ad0 h := gmw_congr (n := n0) had (Nat.le_of_eq hlen) hw
  refine vx_throwSW hx hb hla hown g1 gXn_fit (hts _ g2) (hts _ g3) ha (fun w hw => hbef w (g4 w hw)) g5 hamb.1.1 hamb.1.2 hS (hl.1.trans hml.symm) d0 d3 d4 d6 d9 ?_ hRf ?_ hRc hRs hlk ?_ hS.2.2 hRc hRs
  · intro x hx
    rw [htb] at hx
    cases hx
  · rw [gcats]
    exact hRl
  · intro t hvm hsz hk
    have hkeep : ∀ q : Nat, q < H.size → t.heap[q]? = H[q]? := hk
    refine ⟨⟨h, hE, hlen, ?_, ?_⟩, ?_⟩
    · rw [← hcg]
      exact hP.kept (fun k q hq => hkeep q.1 (hP k q hq).lt)
    · rw [← hcg]
      exact hD
    · exact ⟨Nat.le_trans hS.1 hsz, fun q hq hqA => by rw [hkeep q (Nat.lt_of_lt_of_le hq hS.1)]; exact hS.2.1 q hq hqA⟩
theorem gW_min {i : Nat} {x y : Int32} (hl0 : Cond.methodLink (gown K.1) i Lib.Math.min.name ∈ gTs) (hd : decode K.2.2.1 pc = .ok (.invokestatic i, 3)) (hf : 1 ≤ R.frames) (hlo : (st.map fun v => v.category).sum + 13 ≤ R.locals) (hc : cs ≤ R.cells) (hs : ss ≤ R.slots) (k : gW K sc R n0 E cs ss (pc + 3) l (.int (if y < x then y else x) :: st) h) : gW K sc R n0 E cs ss pc l (.int y :: .int x :: st) h := by
  intro p la e s m args below meth c G ad0 A X H locs ad ls had hl hP hD hS
  obtain ⟨hx, hb, hml, hown, hts, hK, hamb, hA, -⟩ := id X
  exact va_mmin hx hb (hml.trans hl.1.symm) hown (hts _ hl0) (hts _ (gmem 135 (by decide +kernel))) (hts _ (gmem 75 (by decide +kernel))) (hts _ (gmem 136 (by decide +kernel))) hf (by rw [gcats]; exact hlo) hc hs hd (k p la e s m args below meth c G ad0 A X H locs ad ls had hl hP hD hS)
theorem gW_max {i : Nat} {x y : Int32} (hl0 : Cond.methodLink (gown K.1) i Lib.Math.max.name ∈ gTs) (hd : decode K.2.2.1 pc = .ok (.invokestatic i, 3)) (hf : 1 ≤ R.frames) (hlo : (st.map fun v => v.category).sum + 13 ≤ R.locals) (hc : cs ≤ R.cells) (hs : ss ≤ R.slots) (k : gW K sc R n0 E cs ss (pc + 3) l (.int (if x < y then y else x) :: st) h) : gW K sc R n0 E cs ss pc l (.int y :: .int x :: st) h := by
  intro p la e s m args below meth c G ad0 A X H locs ad ls had hl hP hD hS
  obtain ⟨hx, hb, hml, hown, hts, hK, hamb, hA, -⟩ := id X
  exact va_mmax hx hb (hml.trans hl.1.symm) hown (hts _ hl0) (hts _ (gmem 697 (by decide +kernel))) (hts _ (gmem 75 (by decide +kernel))) (hts _ (gmem 698 (by decide +kernel))) hf (by rw [gcats]; exact hlo) hc hs hd (k p la e s m args below meth c G ad0 A X H locs ad ls had hl hP hD hS)
end GR
end
section
/-! CALLS between frames of the abstract machine -/
theorem gml_args (ad : Nat → Nat) : ∀ (vs : List Value) (i : Nat), lv_args i (vs.map (gmv ad)) = gml ad (lv_args i vs)
  | [], _ => rfl
  | v :: vs, i => by
    show (i, gmv ad v) :: lv_args (if (gmv ad v).category = 2 then i + 2 else i + 1) (vs.map (gmv ad)) = (i, gmv ad v) :: gml ad (lv_args (if v.category = 2 then i + 2 else i + 1) vs)
    rw [gmv_cat, gml_args ad vs]
theorem gsl_len (ad : Nat → Nat) : ∀ vs : List Value, (lg_sl (vs.map (gmv ad))).length = (lg_sl vs).length
  | [] => rfl
  | v :: vs => by
    have h := gsl_len ad vs
    unfold lg_sl at h ⊢
    rw [List.map_cons, List.flatMap_cons, List.flatMap_cons, List.length_append, List.length_append, gmv_cat]
    by_cases hc : v.category = 2 <;> simp only [hc, if_true, if_false, List.length_cons, List.length_nil] <;> omega
/-- a method's contract out of its body's walk -/
theorem gM_of {o : Nat} {y : MethodName} {cc : ByteArray} {nL : Nat} {ret : Option FieldType} {R : Room} {as : List Value} {h : gH} {E : gO → gH → Prop} (hy : plainName y.cls = true) (ho : gown o = y.cls) (hsz : (lg_sl as).length ≤ nL)
    (k : ∀ sc, gW (o, y, cc, nL, ret, []) sc R h.length E 0 0 0 (lv_args 0 as) [] h) : gM (o, y, cc, nL, ret, []) R as h E := by
  intro la hla G sc ad sz
  refine vx_ofW (cc := cc) (maxL := nL) (ret := ret) hy rfl ?_
  intro p e s m args below meth c s₁ B hml hexc hv
  obtain ⟨rfl, rfl, hP, hK, hD0, hamb⟩ := hv
  have hts := atoms_spec (ws := gTs) (args := ((as.map (gmv ad)).toArray)) (s := s) (by
    have h1 := atoms_spec (ws := gwd (o, y, cc, nL, ret, []) :: gTs) B.pre
    exact atoms_intro fun w hw => h1 w (List.mem_cons_of_mem _ hw))
  have hown : s.vm.findClass y.cls = some m.cls := findClass_of_methodNamed B.named
  have hl := lv_entry (as.map (gmv ad)) (n := nL) (by rw [gsl_len]; exact hsz)
  rw [gml_args] at hl
  rw [lg_entry_eq]
  have hD := hD0.self (sz := s.heap.size)
  exact k sc p la e s m _ below meth c G ad (va_A (gmw G ad h) s.heap.size) ⟨B.exec, B.bytes, hml, by rw [ho]; exact hown, hts, hK, hamb, fun q hq => Or.inr hq, hla, B.notSynchronized, B.returns, (name_of_methodNamed B.named B.method).1, List.eq_nil_iff_forall_not_mem.mpr hexc⟩ s.heap [] ad _ (fun _ _ => rfl) hl hP hD va_S.rf
/-- cell k of a callee's heap is the caller's cell ps k; what the callee makes stands behind the caller's n cells -/
def gren (ps : List Nat) (n k : Nat) : Nat := cond (Nat.ble 1000 k) k (match ps[k]? with
  | some j => j
  | none => n + (k - ps.length))
def gre (r : Nat → Nat) (e : gC) : gC := match e with
  | .inr (.inr (.inl xs)) => cR (xs.map (Option.map r))
  | .inr (.inr (.inr (ci, fs))) => cO ci (fs.map (gmv r))
  | e => e
def gsets (h : gH) (ps : List Nat) (es : List gC) : gH := match ps, es with
  | j :: ps, e :: es => gsets (h.set j e) ps es
  | _, _ => h
theorem gmv_gmv (ad r : Nat → Nat) (v : Value) : gmv ad (gmv r v) = gmv (fun k => ad (r k)) v := by cases v <;> rfl
theorem gmc_gre (G : gG) (ad r : Nat → Nat) (e : gC) : gmc G ad (gre r e) = gmc G (fun k => ad (r k)) e := by
  rcases e with ⟨k, f⟩ | ⟨k, f⟩ | xs | ⟨ci, fs⟩
  · rfl
  · rfl
  · have h1 : (fun i => ((xs.map (Option.map r)).getD i none).map ad) = fun i => (xs.getD i none).map fun k => ad (r k) := by
      funext i
      rw [List.getD_eq_getElem?_getD, List.getD_eq_getElem?_getD, List.getElem?_map]
      cases xs[i]? with
      | none => rfl
      | some o => cases o <;> rfl
    show (Sum.inl (G.2.2.2, (xs.map (Option.map r)).length, Sum.inr (Sum.inr (Sum.inr (Sum.inr _)))) : va_E) = Sum.inl (G.2.2.2, xs.length, Sum.inr (Sum.inr (Sum.inr (Sum.inr _))))
    rw [h1, List.length_map]
  · show (Sum.inr (ci, (fs.map (gmv r)).map (gmv ad)) : va_E) = Sum.inr (ci, fs.map (gmv fun k => ad (r k)))
    rw [List.map_map]
    exact congrArg (fun z => (Sum.inr (ci, z) : va_E)) (List.map_congr_left fun v _ => gmv_gmv ad r v)
theorem gsets_len : ∀ (ps : List Nat) (es : List gC) (h : gH), (gsets h ps es).length = h.length
  | [], [], _ => rfl
  | [], _ :: _, _ => rfl
  | _ :: _, [], _ => rfl
  | j :: ps, e :: es, h => by
    show (gsets (h.set j e) ps es).length = h.length
    rw [gsets_len ps es, List.length_set]
/-- a cell behind gsets: one of the new ones, or the old one at a place that was not named -/
theorem gsets_at : ∀ (ps : List Nat) (es : List gC) (h : gH) (j : Nat) (e : gC), ps.length = es.length → (gsets h ps es)[j]? = some e → (∃ k : Nat, ps[k]? = some j ∧ es[k]? = some e) ∨ (h[j]? = some e ∧ j ∉ ps)
  | [], [], h, j, e, _, he => Or.inr ⟨he, List.not_mem_nil⟩
  | [], _ :: _, h, j, e, hl, _ => by cases hl
  | i :: ps, [], h, j, e, hl, _ => by cases hl
  | i :: ps, x :: es, h, j, e, hl, he => by
    have hl2 : ps.length = es.length := Nat.succ.inj hl
    rcases gsets_at ps es (h.set i x) j e hl2 he with ⟨k, h1, h2⟩ | ⟨h1, h2⟩
    · exact Or.inl ⟨k + 1, h1, h2⟩
    · by_cases hij : i = j
      · subst hij
        have hlt : i < h.length := by
          have := (List.getElem?_eq_some_iff.mp h1).1
          rwa [List.length_set] at this
        rw [List.getElem?_set_self hlt] at h1
        exact Or.inl ⟨0, rfl, h1⟩
      · rw [List.getElem?_set_ne hij] at h1
        exact Or.inr ⟨h1, fun hm => (List.mem_cons.mp hm).elim (fun q => hij q.symm) h2⟩
section GK
variable {K K' : gK} {sc : Nat × (Nat → Int32)} {R R' : Room} {n0 : Nat} {E Ec : gO → gH → Prop} {cs ss pc : Nat} {l : gL} {st : List Value} {h hc : gH} {as : List Value}
/-- the callee's cells out of the caller's -/
def gCut (h hc : gH) (ps : List Nat) : Prop := ps.map (fun j => h[j]?) = hc.map (fun e => some (gre (gren ps h.length) e)) ∧ va_nd ps = true
theorem gCut.len {ps : List Nat} (hcut : gCut h hc ps) : ps.length = hc.length := by
  have := congrArg List.length hcut.1
  rwa [List.length_map, List.length_map] at this
theorem gCut.at' {ps : List Nat} (hcut : gCut h hc ps) {k : Nat} {e : gC} (hk : hc[k]? = some e) : ∃ j, ps[k]? = some j ∧ h[j]? = some (gre (gren ps h.length) e) := by
  have h1 := congrArg (fun z : List (Option gC) => z[k]?) hcut.1
  simp only [List.getElem?_map, hk, Option.map_some] at h1
  cases hp : ps[k]? with
  | none => rw [hp] at h1; cases h1
  | some j =>
    rw [hp] at h1
    exact ⟨j, rfl, Option.some.inj h1⟩
theorem gren_at {ps : List Nat} {n k j : Nat} (hk : ps[k]? = some j) (h1 : k < 1000) : gren ps n k = j := by
  unfold gren
  have : Nat.ble 1000 k = false := by
    cases hb : Nat.ble 1000 k with
    | false => rfl
    | true => exact absurd (Nat.le_of_ble_eq_true hb) (by omega)
  rw [this, hk]
  rfl
theorem gren_out {ps : List Nat} {n k : Nat} (h1 : 1000 ≤ k) : gren ps n k = k := by
  unfold gren
  have : Nat.ble 1000 k = true := Nat.ble_eq_true_of_le h1
  rw [this]
  rfl
theorem gCut.wP {G : gG} {ad : Nat → Nat} {H : Heap} {ps : List Nat} (hcut : gCut h hc ps) (hb : hc.length ≤ 1000) (hP : va_P G.1 gcl (gmw G ad h) H) : va_P G.1 gcl (gmw G (fun k => ad (gren ps h.length k)) hc) H := by
  intro k q hq
  rw [gmw_at] at hq
  cases hk : hc[k]? with
  | none => rw [hk] at hq; cases hq
  | some e =>
    rw [hk] at hq
    cases hq
    obtain ⟨j, h1, h2⟩ := hcut.at' hk
    have hlt : k < hc.length := (List.getElem?_eq_some_iff.mp hk).1
    have h3 := hP j (ad j, gmc G ad (gre (gren ps h.length) e)) (by rw [gmw_at, h2]; rfl)
    rw [gmc_gre] at h3
    show va_at G.1 gcl (ad (gren ps h.length k), gmc G (fun k => ad (gren ps h.length k)) e) H
    rw [gren_at h1 (Nat.lt_of_lt_of_le hlt hb)]
    exact h3
theorem gCut.wD {G : gG} {ad : Nat → Nat} {A : Nat → Prop} {ps : List Nat} (hcut : gCut h hc ps) (hb : hc.length ≤ 1000) (hD : va_D A (gmw G ad h)) : va_D A (gmw G (fun k => ad (gren ps h.length k)) hc) := by
  have key : ∀ (k : Nat) (q : Nat × va_E), (gmw G (fun k => ad (gren ps h.length k)) hc)[k]? = some q → ∃ j e, ps[k]? = some j ∧ (gmw G ad h)[j]? = some (q.1, e) := by
    intro k q hq
    rw [gmw_at] at hq
    cases hk : hc[k]? with
    | none => rw [hk] at hq; cases hq
    | some e =>
      rw [hk] at hq
      cases hq
      obtain ⟨j, h1, h2⟩ := hcut.at' hk
      have hlt : k < hc.length := (List.getElem?_eq_some_iff.mp hk).1
      refine ⟨j, gmc G ad (gre (gren ps h.length) e), h1, ?_⟩
      rw [gmw_at, h2]
      show some (ad j, _) = some (ad (gren ps h.length k), _)
      rw [gren_at h1 (Nat.lt_of_lt_of_le hlt hb)]
  refine ⟨fun i j x y hx hy hxy => ?_, fun k q hq => ?_⟩
  · obtain ⟨i', e1, a1, a2⟩ := key i x hx
    obtain ⟨j', e2, b1, b2⟩ := key j y hy
    have := hD.1 i' j' _ _ a2 b2 hxy
    subst this
    exact va_nd_inj ps hcut.2 i j i' a1 b1
  · obtain ⟨j, e, -, h2⟩ := key k q hq
    exact hD.2 j (q.1, e) h2
/-- what the callee may write is the caller's to write -/
theorem gCut.wA {G : gG} {ad : Nat → Nat} {A : Nat → Prop} {H0 H : Heap} {locs : List Loc} {ps : List Nat} (hcut : gCut h hc ps) (hb : hc.length ≤ 1000) (hD : va_D A (gmw G ad h)) (hS : va_S A H0 H locs) (hA : ∀ q, H0.size ≤ q → A q) : ∀ q, va_A (gmw G (fun k => ad (gren ps h.length k)) hc) H.size q → A q := by
  intro q hq
  rcases hq with ⟨k, e, hk⟩ | hq
  · exact (hcut.wD hb hD).2 k (q, e) hk
  · exact hA q (Nat.le_trans hS.1 hq)
/-- what comes back stands beside the rest, which is as it was; the callee made nothing that is kept -/
theorem gCut.back {G : gG} {ad ad' : Nat → Nat} {A : Nat → Prop} {H H1 : Heap} {ps : List Nat} {hc' : gH} (hcut : gCut h hc ps) (hb : hc.length ≤ 1000) (hP : va_P G.1 gcl (gmw G ad h) H) (hD : va_D A (gmw G ad h)) (hlen : hc'.length = hc.length) (hwf : hc'.all (gwf hc.length) = true)
    (had : ∀ k, (k < hc.length ∨ 1000 ≤ k) → ad' k = ad (gren ps h.length k)) (hk : ∀ q : Nat, q < H.size → ¬ va_A (gmw G (fun k => ad (gren ps h.length k)) hc) H.size q → H1[q]? = H[q]?) (hP1 : va_P G.1 gcl (gmw G ad' hc') H1) :
    va_P G.1 gcl (gmw G ad (gsets h ps (hc'.map (gre (gren ps h.length))))) H1 ∧ va_D A (gmw G ad (gsets h ps (hc'.map (gre (gren ps h.length))))) := by
  have hpl : ps.length = (hc'.map (gre (gren ps h.length))).length := by rw [List.length_map, hlen, hcut.len]
  have hlen2 : (gsets h ps (hc'.map (gre (gren ps h.length)))).length = h.length := gsets_len _ _ _
  refine ⟨fun j q hq => ?_, ?_⟩
  · rw [gmw_at] at hq
    cases hj : (gsets h ps (hc'.map (gre (gren ps h.length))))[j]? with
    | none => rw [hj] at hq; cases hq
    | some e =>
      rw [hj] at hq
      cases hq
      rcases gsets_at ps _ h j e hpl hj with ⟨k, h1, h2⟩ | ⟨h1, h2⟩
      · rw [List.getElem?_map] at h2
        cases hx : hc'[k]? with
        | none => rw [hx] at h2; cases h2
        | some x =>
          rw [hx] at h2
          cases h2
          have hlt : k < hc.length := by rw [← hlen]; exact (List.getElem?_eq_some_iff.mp hx).1
          have h3 := hP1 k (ad' k, gmc G ad' x) (by rw [gmw_at, hx]; rfl)
          rw [gmc_congr had (List.all_eq_true.mp hwf x (List.mem_of_getElem? hx)), had k (Or.inl hlt), gren_at h1 (Nat.lt_of_lt_of_le hlt hb)] at h3
          show va_at G.1 gcl (ad j, gmc G ad (gre (gren ps h.length) x)) H1
          rw [gmc_gre]
          exact h3
      · have h3 := hP j (ad j, gmc G ad e) (by rw [gmw_at, h1]; rfl)
        refine h3.kept (hk _ h3.lt ?_)
        rintro (⟨k, e', hk'⟩ | hge)
        · rw [gmw_at] at hk'
          cases hy : hc[k]? with
          | none => rw [hy] at hk'; cases hk'
          | some y =>
            rw [hy] at hk'
            have hlt : k < hc.length := (List.getElem?_eq_some_iff.mp hy).1
            obtain ⟨i, i1, i2⟩ := hcut.at' hy
            have hadr : ad (gren ps h.length k) = ad j := congrArg Prod.fst (Option.some.inj hk')
            rw [gren_at i1 (Nat.lt_of_lt_of_le hlt hb)] at hadr
            have := hD.1 i j (ad i, gmc G ad (gre (gren ps h.length) y)) (ad j, gmc G ad e) (by rw [gmw_at, i2]; rfl) (by rw [gmw_at, h1]; rfl) hadr
            subst this
            exact h2 (List.mem_of_getElem? i1)
        · exact absurd h3.lt (Nat.not_lt.mpr hge)
  · have key : ∀ (k : Nat) (q : Nat × va_E), (gmw G ad (gsets h ps (hc'.map (gre (gren ps h.length)))))[k]? = some q → ∃ e, (gmw G ad h)[k]? = some (q.1, e) := by
      intro k q hq
      have hlt : k < h.length := by
        have := (List.getElem?_eq_some_iff.mp hq).1
        rwa [gmw_len, hlen2] at this
      rw [gmw_at] at hq
      cases hj : (gsets h ps (hc'.map (gre (gren ps h.length))))[k]? with
      | none => rw [hj] at hq; cases hq
      | some e =>
        rw [hj] at hq
        cases hq
        exact ⟨gmc G ad h[k], by rw [gmw_at, List.getElem?_eq_getElem hlt]; rfl⟩
    refine ⟨fun i j x y hx hy hxy => ?_, fun k q hq => ?_⟩
    · obtain ⟨e1, a1⟩ := key i x hx
      obtain ⟨e2, a2⟩ := key j y hy
      exact hD.1 i j _ _ a1 a2 hxy
    · obtain ⟨e, a⟩ := key k q hq
      exact hD.2 k (q.1, e) a
end GK
end
section
/-! the call's rules -/
theorem gNs_same {u U : State} (hv : u.vm = U.vm) (h : ∀ w ∈ gNs, va_Nw w u) : ∀ w ∈ gNs, va_Nw w U := by
  intro w hw
  have h1 := h w hw
  have h2 := (List.mem_filter.mp hw).2
  cases w with
  | fieldLinkNest a b c d e f => exact va_Nw.same rfl hv h1
  | methodLinkNest a b c d => exact va_Nw.same rfl hv h1
  | castable a b => exact va_Nw.same rfl hv h1
  | declares a => exact va_Nw.same rfl hv h1
  | _ => cases h2
theorem gM_blind {as : List Value} {sz : Nat} {G : gG} {ad : Nat → Nat} {h : gH} {sc : Nat × (Nat → Int32)} : FrameBlind (va_Pc as (fun U => U.heap.size = sz ∧ va_P G.1 gcl (gmw G ad h) U.heap ∧ va_K G.1 gcl (gTys G) U ∧ va_D (fun _ => True) (gmw G ad h) ∧ gAmb sc ad (va_A (gmw G ad h) sz) U)) := by
  intro a U g mk hp
  obtain ⟨h1, h2, h3, h4, h5, h6⟩ := hp
  exact ⟨h1, h2, h3, va_K.moved (u := U) (U := U.calling g mk a) (Vm.Alike.refl U.vm) h4, h5, gAmb.to (U := U.calling g mk a) h6 (State.WarmedH.refl U) (fun _ _ _ => rfl) (fun _ h => h) (fun _ _ => rfl)⟩
theorem gTs_in {ws : List Cond} (h : ∀ w ∈ ws, w ∈ gTs) : GoodIn gTs ws := fun w hw => gTs_self w (h w hw)
section GC
variable {K : gK} {sc : Nat × (Nat → Int32)} {R R' : Room} {n0 : Nat} {E Ec : gO → gH → Prop} {cs ss pc : Nat} {l : gL} {st : List Value} {h hc : gH} {as : List Value}
variable {p : Program} {la : Launch} {e : Env} {s : State} {m : MethodId} {args : Array Value} {below : List Frame} {meth : Method} {c : Code} {G : gG} {ad0 ad : Nat → Nat} {A : Nat → Prop} {H : Heap} {locs : List Loc} {ls : Array Slot}
/-- what must follow a call: behind its return, and (no handler here) where it throws -/
def gAft (K : gK) (sc : Nat × (Nat → Int32)) (R R' : Room) (n0 : Nat) (E Ec : gO → gH → Prop) (cs ss pc : Nat) (l : gL) (st : List Value) (h hc : gH) (ps : List Nat) : Prop :=
  (∀ v hc', Ec (.inl v) hc' → hc'.length = hc.length ∧ hc'.all (gwf hc.length) = true ∧ (∀ x, v = some x → gwv hc.length x = true) ∧ gW K sc R n0 E (cs + R'.cells) (ss + R'.slots) (pc + 3) l ((v.map (gmv (gren ps h.length))).toList ++ st) (gsets h ps (hc'.map (gre (gren ps h.length))))) ∧
  (∀ X hc', Ec (.inr X) hc' → hc'.all (gwf hc.length) = true ∧ h.length = n0 ∧ (gsets h ps (hc'.map (gre (gren ps h.length)))).all (gwf n0) = true ∧ E (.inr X) (gsets h ps (hc'.map (gre (gren ps h.length)))) ∧ K.2.2.2.2.2 = [])
theorem gcall_ret {ps : List Nat} (X : gCtx K G sc ad0 A p la s m args meth c) (had : ∀ k, (k < n0 ∨ 1000 ≤ k) → ad k = ad0 k) (hl : lv_has ls K.2.2.2.1 (gml ad l)) (hP : va_P G.1 gcl (gmw G ad h) H) (hD : va_D A (gmw G ad h)) (hS : va_S A s.heap H locs)
    (hcut : gCut h hc ps) (hb : hc.length ≤ 1000) (hf : cs + R'.cells ≤ R.cells ∧ ss + R'.slots ≤ R.slots) {st0 : List Value} {a' : Array Value}
    (hr : vx_Run p la e R s m args below meth c H locs cs ss R'.cells R'.slots (F0 m pc ls st0) (st.map (gmv ad)) (gQ G (fun k => ad (gren ps h.length k)) hc.length (va_A (gmw G (fun k => ad (gren ps h.length k)) hc) H.size) Ec a') (gXC G (fun k => ad (gren ps h.length k)) hc.length (va_A (gmw G (fun k => ad (gren ps h.length k)) hc) H.size) Ec) (va_A (gmw G (fun k => ad (gren ps h.length k)) hc) H.size))
    (kk : gAft K sc R R' n0 E Ec cs ss pc l st h hc ps) :
    W p la e R s m args below meth c H locs cs ss (vx_MQ below (gQ G ad0 n0 A E) (gXC G ad0 n0 A E) args s R.cells R.slots A) (F0 m pc ls st0) := by
  obtain ⟨hx, hb', hml, hown, hts, hK, hamb, hA, hla, hlk, hrt, hnm, htb⟩ := id X
  have hAA := hcut.wA hb hD hS hA
  intro T hT Xs
  rcases hr T hT Xs with ⟨v, st₀, t, T', L, h0, X', hL, e1, e2, ⟨⟨ad', v', hc', hv, hEc, hlen, had', hP1, hD1⟩, hF⟩, stp⟩ | ⟨q, st₀, t, T', L, Ex, ce, h0, X', hL, e1, e2, ⟨⟨hc', hEc, hlen, hP1, hD1⟩, hF⟩, hce, hcv, hcl, stp⟩
  · cases hv
    obtain ⟨k1, k2, k3⟩ := vx_keep h0 e1 hS (fun q _ z => hAA q z) hAA hL hF
    obtain ⟨g1, g2, g3, g4⟩ := kk.1 v' hc' hEc
    rw [← e1] at hP1
    obtain ⟨hP2, hD2⟩ := hcut.back hb hP hD g1 g2 had' k2 hP1
    obtain ⟨t2, a1, b1⟩ := g4 p la e s m args below meth c G ad0 A X T'.heap (locs ++ L) ad ls had hl hP2 hD2 k3 T' rfl X'
    refine ⟨t2, stp t2 ?_, b1⟩
    have hst : ((v'.map (gmv (gren ps h.length))).toList ++ st).map (gmv ad) = (v'.map (gmv ad')).toList ++ st.map (gmv ad) := by
      cases v' with
      | none => rfl
      | some x =>
        show gmv ad (gmv (gren ps h.length) x) :: st.map (gmv ad) = gmv ad' x :: st.map (gmv ad)
        rw [gmv_gmv, gmv_congr had' (g3 x rfl)]
    rw [hst] at a1
    exact a1
  · obtain ⟨k1, k2, k3⟩ := vx_keep h0 e1 hS (fun q _ z => hAA q z) hAA hL hF
    obtain ⟨g1, g2, g3, g4, g5⟩ := kk.2 Ex hc' hEc
    rw [← e1] at hP1
    obtain ⟨hP2, hD2⟩ := hcut.back hb hP hD hlen g1 (ad' := fun k => ad (gren ps h.length k)) (fun _ _ => rfl) k2 hP1
    have hlen2 : (gsets h ps (hc'.map (gre (gren ps h.length)))).length = h.length := gsets_len _ _ _
    have hcg := gmw_congr (G := G) (h := gsets h ps (hc'.map (gre (gren ps h.length)))) (n := n0) had (by rw [hlen2, g2]; exact Nat.le_refl _) g3
    have hwx : vx_W p la e R s m args below meth c T'.heap (locs ++ L) (cs + R'.cells) (ss + R'.slots) (vx_MQ below (gQ G ad0 n0 A E) (gXC G ad0 n0 A E) args s R.cells R.slots A) (F0 m pc ls (st.map (gmv ad))) q := by
      refine vx_out (E := Ex) (ce := ce) ?_ hlk (by rw [e1]; exact hce) hcv hcl (fun t' ht' _ => ⟨⟨_, g4, by rw [hlen2, g2], ?_, ?_⟩, k3.F ht'⟩) k3.2.2 hf.1 hf.2
      · intro x hx
        rw [htb, g5] at hx
        cases hx
      · rw [← hcg, ht']
        exact hP2
      · rw [← hcg]
        exact hD2
    obtain ⟨t2, a1, b1⟩ := hwx T' rfl X'
    exact ⟨t2, stp.trans a1, b1⟩
/-- the ambient facts at a callee's start -/
theorem gcall_pre {ps : List Nat} (X : gCtx K G sc ad0 A p la s m args meth c) (had : ∀ k, (k < n0 ∨ 1000 ≤ k) → ad k = ad0 k) (hP : va_P G.1 gcl (gmw G ad h) H) (hD : va_D A (gmw G ad h)) (hS : va_S A s.heap H locs) (hcut : gCut h hc ps) (hb : hc.length ≤ 1000) (U : State) (hU : U.heap = H) (hW : s.WarmedH U.vm) :
    U.heap.size = H.size ∧ va_P G.1 gcl (gmw G (fun k => ad (gren ps h.length k)) hc) U.heap ∧ va_K G.1 gcl (gTys G) U ∧ va_D (fun _ => True) (gmw G (fun k => ad (gren ps h.length k)) hc) ∧ gAmb sc (fun k => ad (gren ps h.length k)) (va_A (gmw G (fun k => ad (gren ps h.length k)) hc) H.size) U := by
  obtain ⟨hx, hb', hml, hown, hts, hK, hamb, hA, hla, hlk, hrt, hnm, htb⟩ := id X
  refine ⟨by rw [hU], by rw [hU]; exact hcut.wP hb hP, va_K.moved hW.alike hK, (hcut.wD hb hD).weaken (fun _ _ _ _ => trivial), gAmb.to hamb hW (fun a ha hn => ?_) (hcut.wA hb hD hS hA) (fun j hj => ?_)⟩
  · rw [hU]
    exact hS.2.1 a ha hn
  · show ad (gren ps h.length (1000 + j)) = ad0 (1000 + j)
    rw [gren_out (Nat.le_add_right _ _)]
    exact had _ (Or.inr (Nat.le_add_right _ _))
end GC
section GD
variable {K : gK} {sc : Nat × (Nat → Int32)} {R R' : Room} {n0 : Nat} {E Ec : gO → gH → Prop} {cs ss pc : Nat} {l : gL} {st st0 : List Value} {h hc : gH} {as : List Value}
variable {o' : Nat} {y' : MethodName} {cc' : ByteArray} {nL' : Nat} {ret' : Option FieldType}
theorem gmap_as (ad : Nat → Nat) (ps : List Nat) (n : Nat) (as : List Value) : (as.map (gmv (gren ps n))).map (gmv ad) = as.map (gmv fun k => ad (gren ps n k)) := by
  rw [List.map_map]
  exact List.map_congr_left fun v _ => gmv_gmv ad _ v
theorem gW_callS {i n : Nat} (hM : gM (o', y', cc', nL', ret', []) R' as hc Ec) (lk : gLkS (gown K.1) i n (o', y', cc', nL', ret', [])) (ps : List Nat) (hd : decode K.2.2.1 pc = .ok (.invokestatic i, 3)) (hst : st0 = (as.map (gmv (gren ps h.length))).reverse ++ st) (hn : as.length = n) (hcut : gCut h hc ps) (hb : hc.length ≤ 1000)
    (hsum : (st.map fun v => v.category).sum ≤ 8) (hR : R'.frames + 1 ≤ R.frames ∧ 8 + (nL' + 11) + R'.locals ≤ R.locals) (hf : cs + R'.cells ≤ R.cells ∧ ss + R'.slots ≤ R.slots) (kk : gAft K sc R R' n0 E Ec cs ss pc l st h hc ps) : gW K sc R n0 E cs ss pc l st0 h := by
  intro p la e s m args below meth c G ad0 A X H locs ad ls had hl hP hD hS
  obtain ⟨hx, hb', hml, hown, hts, hK, hamb, hA, hla, hlk, hrt, hnm, htb⟩ := id X
  obtain ⟨l0, l1, l2, l3, l4, l5, l6⟩ := lk
  have hsum' : 2 * (F0 m pc ls (st0.map (gmv ad))).monitorRoom + ((st.map (gmv ad)).map fun v => v.category).sum ≤ 8 := by rw [gcats]; exact Nat.le_trans (Nat.le_of_eq (Nat.zero_add _)) hsum
  have hG : GoodIn gTs (gwd (o', y', cc', nL', ret', []) :: gTs) := gTs_in fun w hw => (List.mem_cons.mp hw).elim (fun q => q ▸ l4) id
  have hMM := hM la hla G sc (fun k => ad (gren ps h.length k)) H.size
  have hp : PreS s H (va_Pc (as.map (gmv fun k => ad (gren ps h.length k))) (fun U => U.heap.size = H.size ∧ va_P G.1 gcl (gmw G (fun k => ad (gren ps h.length k)) hc) U.heap ∧ va_K G.1 gcl (gTys G) U ∧ va_D (fun _ => True) (gmw G (fun k => ad (gren ps h.length k)) hc) ∧ gAmb sc (fun k => ad (gren ps h.length k)) (va_A (gmw G (fun k => ad (gren ps h.length k)) hc) H.size) U)) (as.map (gmv fun k => ad (gren ps h.length k))) :=
    ⟨gM_blind, fun U hU hW => ⟨rfl, gcall_pre X had hP hD hS hcut hb U hU hW⟩⟩
  have hstk : st0.map (gmv ad) = (as.map (gmv fun k => ad (gren ps h.length k))).reverse ++ st.map (gmv ad) := by
    rw [hst, List.map_append, List.map_reverse, gmap_as]
  rcases l1 with l1 | l1
  · exact gcall_ret X had hl hP hD hS hcut hb hf (vx_runS ⟨hx, hb', hml, hown, hts⟩ hMM ⟨callB_of n hts hG rfl rfl rfl (hts _ l3) (hts _ l1) ⟨l5, l6, l0⟩ hR, hts _ l2⟩ hp rfl (by rw [List.length_map]; exact hn) hl.1 hstk hsum' hd hf) kk
  · exact gcall_ret X had hl hP hD hS hcut hb hf (vx_runSN ⟨hx, hb', hml, hown, hts⟩ hMM ⟨va_cnB n hts hG rfl rfl rfl (hamb.2.2.2.2 _ l1) (hts _ l3) ⟨l5, l6, l0⟩ hR, hts _ l2, trivial⟩ hp rfl (by rw [List.length_map]; exact hn) hl.1 hstk hsum' hd hf) kk
theorem gW_callV {i n r0 : Nat} {fs : List Value} (hM : gM (o', y', cc', nL', ret', []) R' (.ref r0 :: as) hc Ec) (lk : gLkV (gown K.1) i n (o', y', cc', nL', ret', [])) (ps : List Nat) (hd : decode K.2.2.1 pc = .ok (.invokevirtual i, 3)) (hst : st0 = ((Value.ref r0 :: as).map (gmv (gren ps h.length))).reverse ++ st) (hn : as.length = n) (hcut : gCut h hc ps) (hb : hc.length ≤ 1000)
    (ho : gown o' = y'.cls) (ho7 : o' < 7) (hrc : hc[r0]? = some (cO o' fs)) (hsum : (st.map fun v => v.category).sum ≤ 8) (hR : R'.frames + 1 ≤ R.frames ∧ 8 + (nL' + 11) + R'.locals ≤ R.locals) (hf : cs + R'.cells ≤ R.cells ∧ ss + R'.slots ≤ R.slots) (kk : gAft K sc R R' n0 E Ec cs ss pc l st h hc ps) : gW K sc R n0 E cs ss pc l st0 h := by
  intro p la e s m args below meth c G ad0 A X H locs ad ls had hl hP hD hS
  obtain ⟨hx, hb', hml, hown, hts, hK, hamb, hA, hla, hlk, hrt, hnm, htb⟩ := id X
  obtain ⟨l0, l1, l2, l3, l4, l5, l6, l7⟩ := lk
  have hsum' : 2 * (F0 m pc ls (st0.map (gmv ad))).monitorRoom + ((st.map (gmv ad)).map fun v => v.category).sum ≤ 8 := by rw [gcats]; exact Nat.le_trans (Nat.le_of_eq (Nat.zero_add _)) hsum
  have hG : GoodIn gTs (gwd (o', y', cc', nL', ret', []) :: gTs) := gTs_in fun w hw => (List.mem_cons.mp hw).elim (fun q => q ▸ l5) id
  have hMM := hM la hla G sc (fun k => ad (gren ps h.length k)) H.size
  have hrecv := va_recv (H := H) (ws := gmw G (fun k => ad (gren ps h.length k)) hc) (q0 := r0) hK (hcut.wP hb hP) (gcl_at ho7) (gmw_of hrc)
  have hp : PreV s H y'.cls (ad (gren ps h.length r0)) (va_Pc ((Value.ref r0 :: as).map (gmv fun k => ad (gren ps h.length k))) (fun U => U.heap.size = H.size ∧ va_P G.1 gcl (gmw G (fun k => ad (gren ps h.length k)) hc) U.heap ∧ va_K G.1 gcl (gTys G) U ∧ va_D (fun _ => True) (gmw G (fun k => ad (gren ps h.length k)) hc) ∧ gAmb sc (fun k => ad (gren ps h.length k)) (va_A (gmw G (fun k => ad (gren ps h.length k)) hc) H.size) U)) (as.map (gmv fun k => ad (gren ps h.length k))) :=
    ⟨gM_blind, by rw [← ho]; exact hrecv, fun U hU hW => ⟨rfl, gcall_pre X had hP hD hS hcut hb U hU hW⟩⟩
  have hstk : st0.map (gmv ad) = (as.map (gmv fun k => ad (gren ps h.length k))).reverse ++ .ref (ad (gren ps h.length r0)) :: st.map (gmv ad) := by
    rw [hst, List.map_append, List.map_reverse, gmap_as, List.map_cons, List.reverse_cons, List.append_assoc]
    rfl
  exact gcall_ret X had hl hP hD hS hcut hb hf (vx_runV ⟨hx, hb', hml, hown, hts⟩ hMM ⟨callB_of n hts hG rfl rfl rfl (hts _ l4) (hts _ l1) ⟨l6, l7, l0⟩ hR, hts _ l2, hts _ l3⟩ hp rfl (by rw [List.length_map]; exact hn) hl.1 hstk hsum' hd hf) kk
/-- the contract of one end: the answer (or the exception's class) and the cells -/
def gD (o : gO) (h : gH) : gO → gH → Prop := fun o' h' => o' = o ∧ h' = h
/-- a call that returns, its end known -/
theorem gAft_r {ps : List Nat} {v : Option Value} {hc' h' : gH} {st' : List Value} {pc' : Nat} {cs' ss' : Nat} (hlen : hc'.length = hc.length) (hwf : (hc'.all (gwf hc.length) && (v.toList.all (gwv hc.length))) = true) (hh : gsets h ps (hc'.map (gre (gren ps h.length))) = h') (hs : (v.map (gmv (gren ps h.length))).toList ++ st = st') (hpc : pc + 3 = pc') (hcs : cs + R'.cells = cs') (hss : ss + R'.slots = ss') (k : gW K sc R n0 E cs' ss' pc' l st' h') : gAft K sc R R' n0 E (gD (.inl v) hc') cs ss pc l st h hc ps := by
  subst hh; subst hs; subst hpc; subst hcs; subst hss
  simp only [Bool.and_eq_true] at hwf
  refine ⟨fun w x hx => ?_, fun X x hx => (nomatch hx.1)⟩
  obtain ⟨h1, rfl⟩ := hx
  cases h1
  refine ⟨hlen, hwf.1, fun x hx => ?_, k⟩
  subst hx
  exact List.all_eq_true.mp hwf.2 x (by simp)
/-- a call that throws, and so this frame ends -/
theorem gAft_x {ps : List Nat} {Xc : String} {hc' : gH} (hwf : hc'.all (gwf hc.length) = true) (hn : h.length = n0) (hw : (gsets h ps (hc'.map (gre (gren ps h.length)))).all (gwf n0) = true) (hE : E (.inr Xc) (gsets h ps (hc'.map (gre (gren ps h.length))))) (ht : K.2.2.2.2.2 = []) : gAft K sc R R' n0 E (gD (.inr Xc) hc') cs ss pc l st h hc ps := by
  refine ⟨fun v x hx => (nomatch hx.1), fun X x hx => ?_⟩
  obtain ⟨h1, rfl⟩ := hx
  cases h1
  exact ⟨hwf, hn, hw, hE, ht⟩
end GD
end
section
/-! the methods' instructions, and that they decode so: printed by wip/whole/walk.py -/
def T_Gs_init : List (Nat × Instr) := [(0, .aload_n 0), (1, .invokespecial 1), (4, .aload_n 0), (5, .new 7), (8, .dup), (9, .invokespecial 9), (12, .putfield 10), (15, .aload_n 0), (16, .new 7), (19, .dup), (20, .invokespecial 9), (23, .putfield 16), (26, .aload_n 0), (27, .new 19), (30, .dup), (31, .invokespecial 21), (34, .putfield 22), (37, .aload_n 0), (38, .new 26), (41, .dup), (42, .invokespecial 28), (45, .putfield 29), (48, .aload_n 0), (49, .bipush 10), (51, .newarray .int), (53, .putfield 33), (56, .return_)]
theorem D_Gs_init : gdec prog_1_method_1_code T_Gs_init = true := by decide +kernel
def T_Do_init : List (Nat × Instr) := [(0, .aload_n 0), (1, .invokespecial 3), (4, .aload_n 0), (5, .new 9), (8, .dup), (9, .invokespecial 11), (12, .putfield 12), (15, .aload_n 0), (16, .new 18), (19, .dup), (20, .invokespecial 20), (23, .putfield 21), (26, .aload_n 0), (27, .bipush 6), (29, .newarray .int), (31, .putfield 25), (34, .aload_n 0), (35, .iconst 4), (36, .newarray .int), (38, .putfield 29), (41, .aload_n 0), (42, .iconst 4), (43, .newarray .int), (45, .putfield 32), (48, .aload_n 0), (49, .iconst 4), (50, .newarray .int), (52, .putfield 35), (55, .aload_n 0), (56, .iconst 4), (57, .newarray .int), (59, .putfield 38), (62, .getstatic 41), (65, .aload_n 0), (66, .getfield 25), (69, .invokestatic 44), (72, .iconst 0), (73, .istore_n 1), (74, .iload_n 1), (75, .iconst 4), (76, .if_icmp .ge 16), (79, .aload_n 0), (80, .getfield 29), (83, .iload_n 1), (84, .iconst 5), (85, .iastore), (86, .iinc 1 1), (89, .goto (-15)), (92, .return_)]
theorem D_Do_init : gdec prog_2_method_1_code T_Do_init = true := by decide +kernel
def T_Tr_init : List (Nat × Instr) := [(0, .aload_n 0), (1, .invokespecial 3), (4, .aload_n 0), (5, .bipush 24), (7, .newarray .int), (9, .putfield 9), (12, .return_)]
theorem D_Tr_init : gdec prog_6_method_1_code T_Tr_init = true := by decide +kernel
def T_Se_init : List (Nat × Instr) := [(0, .aload_n 0), (1, .invokespecial 3), (4, .aload_n 0), (5, .bipush 50), (7, .newarray .int), (9, .putfield 9), (12, .return_)]
theorem D_Se_init : gdec prog_5_method_1_code T_Se_init = true := by decide +kernel
def T_Gs_copyRow : List (Nat × Instr) := [(0, .aload_n 0), (1, .iconst 0), (2, .aload_n 1), (3, .iconst 0), (4, .aload_n 0), (5, .arraylength), (6, .aload_n 1), (7, .arraylength), (8, .invokestatic 323), (11, .invokestatic 328), (14, .return_)]
theorem D_Gs_copyRow : gdec prog_1_method_41_code T_Gs_copyRow = true := by decide +kernel
def T_Hi_init : List (Nat × Instr) := [(0, .aload_n 0), (1, .invokespecial 3), (4, .aload_n 0), (5, .bipush 6), (7, .anewarray 9), (10, .putfield 11), (13, .iconst 0), (14, .istore_n 1), (15, .iload_n 1), (16, .bipush 6), (18, .if_icmp .ge 22), (21, .aload_n 0), (22, .getfield 11), (25, .iload_n 1), (26, .new 9), (29, .dup), (30, .invokespecial 17), (33, .aastore), (34, .iinc 1 1), (37, .goto (-22)), (40, .return_)]
theorem D_Hi_init : gdec prog_3_method_1_code T_Hi_init = true := by decide +kernel
def T_Tx_init : List (Nat × Instr) := [(0, .aload_n 0), (1, .invokespecial 5), (4, .aload_n 0), (5, .bipush 60), (7, .newarray .int), (9, .putfield 11), (12, .aload_n 0), (13, .bipush 12), (15, .newarray .int), (17, .putfield 15), (20, .aload_n 0), (21, .bipush 12), (23, .newarray .int), (25, .putfield 18), (28, .aload_n 0), (29, .bipush 12), (31, .newarray .int), (33, .putfield 21), (36, .return_)]
theorem D_Tx_init : gdec prog_4_method_1_code T_Tx_init = true := by decide +kernel
def T_Gs_clearBuffer : List (Nat × Instr) := [(0, .aload_n 0), (1, .getfield 29), (4, .getfield 133), (7, .istore_n 1), (8, .aload_n 0), (9, .getfield 29), (12, .invokevirtual 142), (15, .iload_n 1), (16, .ireturn)]
theorem D_Gs_clearBuffer : gdec prog_1_method_11_code T_Gs_clearBuffer = true := by decide +kernel
def T_Tx_erase : List (Nat × Instr) := [(0, .aload_n 0), (1, .iconst 0), (2, .putfield 24), (5, .return_)]
theorem D_Tx_erase : gdec prog_4_method_2_code T_Tx_erase = true := by decide +kernel
def T_Gs_firstError : List (Nat × Instr) := [(0, .aload_n 0), (1, .getfield 29), (4, .invokevirtual 145), (7, .ireturn)]
theorem D_Gs_firstError : gdec prog_1_method_12_code T_Gs_firstError = true := by decide +kernel
def T_Tx_read : List (Nat × Instr) := [(0, .aload_n 0), (1, .iconst 0), (2, .putfield 28), (5, .aload_n 0), (6, .iconst 0), (7, .putfield 31), (10, .iconst 0), (11, .istore_n 1), (12, .iload_n 1), (13, .aload_n 0), (14, .getfield 24), (17, .if_icmp .ge 30), (20, .iload_n 1), (21, .bipush 60), (23, .if_icmp .ge 24), (26, .aload_n 0), (27, .aload_n 0), (28, .getfield 11), (31, .iload_n 1), (32, .iaload), (33, .invokevirtual 34), (36, .ifCond .ne 5), (39, .iload_n 1), (40, .ireturn), (41, .iinc 1 1), (44, .goto (-32)), (47, .aload_n 0), (48, .getfield 24), (51, .ireturn)]
theorem D_Tx_read : gdec prog_4_method_4_code T_Tx_read = true := by decide +kernel
def T_Tx_accepts : List (Nat × Instr) := [(0, .aload_n 0), (1, .getfield 31), (36, .aload_n 0), (37, .iload_n 1), (38, .invokevirtual 45), (41, .ireturn), (42, .aload_n 0), (43, .iload_n 1), (44, .invokevirtual 48), (47, .ireturn), (48, .aload_n 0), (49, .iload_n 1), (50, .invokevirtual 51), (53, .ireturn), (54, .aload_n 0), (55, .iload_n 1), (56, .invokevirtual 54), (59, .ireturn), (60, .aload_n 0), (61, .iload_n 1), (62, .invokevirtual 57), (65, .ireturn)]
theorem D_Tx_accepts : gdec prog_4_method_6_code T_Tx_accepts = true := by decide +kernel
theorem S_Tx_accepts_4 : decode prog_4_method_6_code 4 = .ok (.tableswitch 56 0 3 #[32, 38, 44, 50], 32) := by decide +kernel
def T_Tx_acceptsFirstDigit : List (Nat × Instr) := [(0, .iload_n 1), (1, .bipush 49), (3, .if_icmp .lt 9), (6, .iload_n 1), (7, .bipush 57), (9, .if_icmp .le 5), (12, .iconst 0), (13, .ireturn), (14, .aload_n 0), (15, .iload_n 1), (16, .bipush 48), (18, .isub), (19, .putfield 60), (22, .aload_n 0), (23, .iconst 1), (24, .putfield 31), (27, .iconst 1), (28, .ireturn)]
theorem D_Tx_acceptsFirstDigit : gdec prog_4_method_7_code T_Tx_acceptsFirstDigit = true := by decide +kernel
def T_Tx_acceptsInCubes : List (Nat × Instr) := [(0, .iload_n 1), (1, .bipush 97), (3, .if_icmp .lt 24), (6, .iload_n 1), (7, .bipush 101), (9, .if_icmp .ge 18), (12, .aload_n 0), (13, .iload_n 1), (14, .bipush 97), (16, .isub), (17, .putfield 63), (20, .aload_n 0), (21, .iconst 2), (22, .putfield 31), (25, .iconst 1), (26, .ireturn), (27, .bipush 10), (29, .aload_n 0), (30, .getfield 60), (33, .imul), (34, .iload_n 1), (35, .iadd), (36, .bipush 48), (38, .isub), (39, .istore_n 2), (40, .iload_n 1), (41, .invokestatic 66), (44, .ifCond .eq 10), (47, .iload_n 2), (48, .sipush 500), (51, .if_icmp .le 5), (54, .iconst 0), (55, .ireturn), (56, .aload_n 0), (57, .iload_n 2), (58, .putfield 60), (61, .iconst 1), (62, .ireturn)]
theorem D_Tx_acceptsInCubes : gdec prog_4_method_8_code T_Tx_acceptsInCubes = true := by decide +kernel
def T_Tx_isDigit : List (Nat × Instr) := [(0, .iload_n 0), (1, .bipush 48), (3, .if_icmp .lt 13), (6, .iload_n 0), (7, .bipush 57), (9, .if_icmp .gt 7), (12, .iconst 1), (13, .goto 4), (16, .iconst 0), (17, .ireturn)]
theorem D_Tx_isDigit : gdec prog_4_method_12_code T_Tx_isDigit = true := by decide +kernel
def T_Tx_acceptsAt : List (Nat × Instr) := [(0, .iload_n 1), (1, .bipush 64), (3, .if_icmp .eq 5), (6, .iconst 0), (7, .ireturn), (8, .aload_n 0), (9, .iconst 3), (10, .putfield 31), (13, .iconst 1), (14, .ireturn)]
theorem D_Tx_acceptsAt : gdec prog_4_method_9_code T_Tx_acceptsAt = true := by decide +kernel
def T_Tx_acceptsDayDigit : List (Nat × Instr) := [(0, .iload_n 1), (1, .invokestatic 66), (4, .ifCond .ne 5), (7, .iconst 0), (8, .ireturn), (9, .aload_n 0), (10, .iload_n 1), (11, .bipush 48), (13, .isub), (14, .putfield 69), (17, .aload_n 0), (18, .iconst 4), (19, .putfield 31), (22, .iconst 1), (23, .ireturn)]
theorem D_Tx_acceptsDayDigit : gdec prog_4_method_10_code T_Tx_acceptsDayDigit = true := by decide +kernel
def T_Tx_acceptsInDay : List (Nat × Instr) := [(0, .iload_n 1), (1, .bipush 59), (3, .if_icmp .ne 14), (6, .aload_n 0), (7, .invokevirtual 42), (10, .aload_n 0), (11, .iconst 0), (12, .putfield 31), (15, .iconst 1), (16, .ireturn), (17, .bipush 10), (19, .aload_n 0), (20, .getfield 69), (23, .imul), (24, .iload_n 1), (25, .iadd), (26, .bipush 48), (28, .isub), (29, .istore_n 2), (30, .iload_n 1), (31, .invokestatic 66), (34, .ifCond .eq 17), (37, .aload_n 0), (38, .getfield 69), (41, .ifCond .eq 10), (44, .iload_n 2), (45, .sipush 999), (48, .if_icmp .le 5), (51, .iconst 0), (52, .ireturn), (53, .aload_n 0), (54, .iload_n 2), (55, .putfield 69), (58, .iconst 1), (59, .ireturn)]
theorem D_Tx_acceptsInDay : gdec prog_4_method_11_code T_Tx_acceptsInDay = true := by decide +kernel
def T_Tx_keepPart : List (Nat × Instr) := [(0, .aload_n 0), (1, .getfield 28), (4, .bipush 12), (6, .if_icmp .ge 52), (9, .aload_n 0), (10, .getfield 15), (13, .aload_n 0), (14, .getfield 28), (17, .aload_n 0), (18, .getfield 63), (21, .iastore), (22, .aload_n 0), (23, .getfield 18), (26, .aload_n 0), (27, .getfield 28), (30, .aload_n 0), (31, .getfield 60), (34, .iastore), (35, .aload_n 0), (36, .getfield 21), (39, .aload_n 0), (40, .getfield 28), (43, .aload_n 0), (44, .getfield 69), (47, .iastore), (48, .aload_n 0), (49, .dup), (50, .getfield 28), (53, .iconst 1), (54, .iadd), (55, .putfield 28), (58, .return_)]
theorem D_Tx_keepPart : gdec prog_4_method_13_code T_Tx_keepPart = true := by decide +kernel
def T_Gs_laidShare : List (Nat × Instr) := [(0, .aload_n 0), (1, .getfield 10), (4, .getfield 198), (7, .invokestatic 126), (10, .istore_n 1), (11, .iload_n 1), (12, .iconst 1), (13, .if_icmp .ge 7), (16, .dconst 1), (17, .goto 17), (20, .aload_n 0), (21, .getfield 10), (24, .getfield 123), (27, .invokestatic 126), (30, .i2d), (31, .iload_n 1), (32, .i2d), (33, .ddiv), (34, .dreturn)]
theorem D_Gs_laidShare : gdec prog_1_method_25_code T_Gs_laidShare = true := by decide +kernel
def T_Gs_sumOf : List (Nat × Instr) := [(0, .iconst 0), (1, .istore_n 1), (2, .aload_n 0), (3, .astore_n 2), (4, .aload_n 2), (5, .arraylength), (6, .istore_n 3), (7, .iconst 0), (8, .istore 4), (10, .iload 4), (12, .iload_n 3), (13, .if_icmp .ge 20), (16, .aload_n 2), (17, .iload 4), (19, .iaload), (20, .istore 5), (22, .iload_n 1), (23, .iload 5), (25, .iadd), (26, .istore_n 1), (27, .iinc 4 1), (30, .goto (-20)), (33, .iload_n 1), (34, .ireturn)]
theorem D_Gs_sumOf : gdec prog_1_method_40_code T_Gs_sumOf = true := by decide +kernel
def T_Gs_digest : List (Nat × Instr) := [(0, .ldc2_w 244), (3, .lstore_n 1), (4, .iconst 0), (5, .istore_n 3), (6, .iload_n 3), (7, .bipush 9), (9, .if_icmp .gt 22), (12, .ldc2_w 246), (15, .lload_n 1), (16, .lmul), (17, .aload_n 0), (18, .iload_n 3), (19, .invokevirtual 248), (22, .i2l), (23, .ladd), (24, .lstore_n 1), (25, .iinc 3 1), (28, .goto (-22)), (31, .iconst 0), (32, .istore_n 3), (33, .iload_n 3), (34, .bipush 6), (36, .if_icmp .ge 22), (39, .ldc2_w 246), (42, .lload_n 1), (43, .lmul), (44, .aload_n 0), (45, .iload_n 3), (46, .invokevirtual 251), (49, .i2l), (50, .ladd), (51, .lstore_n 1), (52, .iinc 3 1), (55, .goto (-22)), (58, .aload_n 0), (59, .aload_n 0), (60, .lload_n 1), (61, .invokevirtual 254), (64, .invokevirtual 258), (67, .lstore_n 1), (68, .aload_n 0), (69, .lload_n 1), (70, .invokevirtual 261), (73, .lstore_n 1), (74, .ldc2_w 246), (77, .lload_n 1), (78, .lmul), (79, .aload_n 0), (80, .bipush 100), (82, .invokevirtual 264), (85, .i2l), (86, .ladd), (87, .lstore_n 1), (88, .iconst 0), (89, .istore_n 3), (90, .iload_n 3), (91, .iconst 3), (92, .if_icmp .gt 23), (95, .ldc2_w 246), (98, .lload_n 1), (99, .lmul), (100, .aload_n 0), (101, .iconst 5), (102, .iload_n 3), (103, .invokevirtual 267), (106, .i2l), (107, .ladd), (108, .lstore_n 1), (109, .iinc 3 1), (112, .goto (-22)), (115, .ldc2_w 246), (118, .lload_n 1), (119, .lmul), (120, .aload_n 0), (121, .bipush 9), (123, .invokevirtual 270), (126, .i2l), (127, .ladd), (128, .lstore_n 1), (129, .ldc2_w 246), (132, .lload_n 1), (133, .lmul), (134, .aload_n 0), (135, .invokevirtual 273), (138, .invokestatic 277), (141, .ladd), (142, .lstore_n 1), (143, .aload_n 0), (144, .lload_n 1), (145, .invokevirtual 281), (148, .lreturn)]
theorem D_Gs_digest : gdec prog_1_method_26_code T_Gs_digest = true := by decide +kernel
def T_Gs_count : List (Nat × Instr) := [(0, .iload_n 1), (56, .aload_n 0), (57, .getfield 10), (60, .getfield 118), (63, .ireturn), (64, .aload_n 0), (65, .getfield 10), (68, .getfield 85), (71, .getfield 89), (74, .ireturn), (75, .aload_n 0), (76, .getfield 10), (79, .getfield 209), (82, .ireturn), (83, .aload_n 0), (84, .getfield 10), (87, .getfield 212), (90, .ireturn), (91, .aload_n 0), (92, .getfield 10), (95, .getfield 215), (98, .ireturn), (99, .aload_n 0), (100, .getfield 10), (103, .getfield 175), (106, .invokevirtual 218), (109, .ireturn), (110, .aload_n 0), (111, .getfield 10), (114, .getfield 175), (117, .invokevirtual 221), (120, .ireturn), (121, .aload_n 0), (122, .getfield 10), (125, .getfield 201), (128, .invokestatic 126), (131, .ireturn), (132, .aload_n 0), (133, .getfield 10), (136, .getfield 224), (139, .ireturn), (140, .aload_n 0), (141, .getfield 22), (144, .getfield 169), (147, .ireturn), (148, .new 73), (151, .dup), (152, .ldc 227), (154, .invokespecial 77), (157, .athrow)]
theorem D_Gs_count : gdec prog_1_method_18_code T_Gs_count = true := by decide +kernel
theorem S_Gs_count_1 : decode prog_1_method_18_code 1 = .ok (.tableswitch 147 0 9 #[55, 63, 74, 82, 90, 98, 109, 120, 131, 139], 55) := by decide +kernel
def T_Tr_mixedTrays : List (Nat × Instr) := [(0, .iconst 0), (1, .istore_n 1), (2, .iconst 0), (3, .istore_n 2), (4, .iload_n 2), (5, .bipush 6), (7, .if_icmp .ge 21), (10, .aload_n 0), (11, .iload_n 2), (12, .invokevirtual 32), (15, .iconst 1), (16, .if_icmp .le 6), (19, .iinc 1 1), (22, .iinc 2 1), (25, .goto (-21)), (28, .iload_n 1), (29, .ireturn)]
theorem D_Tr_mixedTrays : gdec prog_6_method_8_code T_Tr_mixedTrays = true := by decide +kernel
def T_Tr_tonesIn : List (Nat × Instr) := [(0, .iload_n 1), (1, .ifCond .lt 9), (4, .iload_n 1), (5, .bipush 6), (7, .if_icmp .lt 5), (10, .iconst 0), (11, .ireturn), (12, .iconst 0), (13, .istore_n 2), (14, .iconst 0), (15, .istore_n 3), (16, .iload_n 3), (17, .iconst 4), (18, .if_icmp .ge 25), (21, .aload_n 0), (22, .getfield 9), (25, .iload_n 1), (26, .iconst 4), (27, .imul), (28, .iload_n 3), (29, .iadd), (30, .iaload), (31, .ifCond .le 6), (34, .iinc 2 1), (37, .iinc 3 1), (40, .goto (-24)), (43, .iload_n 2), (44, .ireturn)]
theorem D_Tr_tonesIn : gdec prog_6_method_7_code T_Tr_tonesIn = true := by decide +kernel
def T_Tr_emptyTrays : List (Nat × Instr) := [(0, .iconst 0), (1, .istore_n 1), (2, .iconst 0), (3, .istore_n 2), (4, .iload_n 2), (5, .bipush 6), (7, .if_icmp .ge 20), (10, .aload_n 0), (11, .iload_n 2), (12, .invokevirtual 32), (15, .ifCond .ne 6), (18, .iinc 1 1), (21, .iinc 2 1), (24, .goto (-20)), (27, .iload_n 1), (28, .ireturn)]
theorem D_Tr_emptyTrays : gdec prog_6_method_9_code T_Tr_emptyTrays = true := by decide +kernel
def T_Gs_setting : List (Nat × Instr) := [(0, .iload_n 1), (1, .bipush 6), (3, .invokestatic 37), (6, .aload_n 0), (7, .getfield 10), (10, .getfield 229), (13, .iload_n 1), (14, .invokestatic 48), (17, .ireturn)]
theorem D_Gs_setting : gdec prog_1_method_19_code T_Gs_setting = true := by decide +kernel
def T_Gs_requireIndex : List (Nat × Instr) := [(0, .iload_n 0), (1, .ifCond .lt 8), (4, .iload_n 0), (5, .iload_n 1), (6, .if_icmp .lt 14), (9, .new 308), (12, .dup), (13, .ldc_w 313), (16, .invokespecial 312), (19, .athrow), (20, .return_)]
theorem D_Gs_requireIndex : gdec prog_1_method_35_code T_Gs_requireIndex = true := by decide +kernel
def T_Gs_valueAt : List (Nat × Instr) := [(0, .iload_n 1), (1, .ifCond .lt 15), (4, .iload_n 1), (5, .aload_n 0), (6, .arraylength), (7, .if_icmp .ge 9), (10, .aload_n 0), (11, .iload_n 1), (12, .iaload), (13, .goto 4), (16, .iconst 0), (17, .ireturn)]
theorem D_Gs_valueAt : gdec prog_1_method_38_code T_Gs_valueAt = true := by decide +kernel
def T_Gs_hashOfTrays : List (Nat × Instr) := [(0, .lload_n 1), (1, .lstore_n 3), (2, .iconst 0), (3, .istore 5), (5, .iload 5), (7, .bipush 6), (9, .if_icmp .ge 40), (12, .iconst 0), (13, .istore 6), (15, .iload 6), (17, .iconst 4), (18, .if_icmp .ge 25), (21, .ldc2_w 246), (24, .lload_n 3), (25, .lmul), (26, .aload_n 0), (27, .iload 5), (29, .iload 6), (31, .invokevirtual 284), (34, .i2l), (35, .ladd), (36, .lstore_n 3), (37, .iinc 6 1), (40, .goto (-25)), (43, .iinc 5 1), (46, .goto (-41)), (49, .lload_n 3), (50, .lreturn)]
theorem D_Gs_hashOfTrays : gdec prog_1_method_27_code T_Gs_hashOfTrays = true := by decide +kernel
def T_Gs_tray : List (Nat × Instr) := [(0, .iload_n 1), (1, .bipush 6), (3, .invokestatic 37), (6, .iload_n 2), (7, .iconst (-1)), (8, .if_icmp .ne 15), (11, .aload_n 0), (12, .getfield 10), (15, .getfield 175), (18, .iload_n 1), (19, .invokevirtual 179), (22, .ireturn), (23, .iload_n 2), (24, .iconst 4), (25, .invokestatic 37), (28, .aload_n 0), (29, .getfield 10), (32, .getfield 175), (35, .iload_n 1), (36, .iload_n 2), (37, .invokevirtual 184), (40, .ireturn)]
theorem D_Gs_tray : gdec prog_1_method_15_code T_Gs_tray = true := by decide +kernel
def T_Tr_heldInAll : List (Nat × Instr) := [(0, .iconst 0), (1, .istore_n 2), (2, .iconst 0), (3, .istore_n 3), (4, .iload_n 3), (5, .iconst 4), (6, .if_icmp .ge 18), (9, .iload_n 2), (10, .aload_n 0), (11, .iload_n 1), (12, .iload_n 3), (13, .invokevirtual 19), (16, .iadd), (17, .istore_n 2), (18, .iinc 3 1), (21, .goto (-17)), (24, .iload_n 2), (25, .ireturn)]
theorem D_Tr_heldInAll : gdec prog_6_method_5_code T_Tr_heldInAll = true := by decide +kernel
def T_Tr_held : List (Nat × Instr) := [(0, .iload_n 1), (1, .ifCond .lt 22), (4, .iload_n 1), (5, .bipush 6), (7, .if_icmp .ge 16), (10, .iload_n 2), (11, .ifCond .lt 12), (14, .iload_n 2), (15, .iconst 4), (16, .if_icmp .ge 7), (19, .iconst 1), (20, .goto 4), (23, .iconst 0), (24, .istore_n 3), (25, .iload_n 3), (26, .ifCond .eq 16), (29, .aload_n 0), (30, .getfield 9), (33, .iload_n 1), (34, .iconst 4), (35, .imul), (36, .iload_n 2), (37, .iadd), (38, .iaload), (39, .goto 4), (42, .iconst 0), (43, .ireturn)]
theorem D_Tr_held : gdec prog_6_method_3_code T_Tr_held = true := by decide +kernel
def T_Gs_hashOfSections : List (Nat × Instr) := [(0, .lload_n 1), (1, .lstore_n 3), (2, .aload_n 0), (3, .invokevirtual 241), (6, .iconst 0), (7, .istore 5), (9, .iload 5), (11, .aload_n 0), (12, .getfield 10), (15, .getfield 85), (18, .getfield 89), (21, .if_icmp .ge 57), (24, .iconst 0), (25, .istore 6), (27, .iload 6), (29, .iconst 5), (30, .if_icmp .gt 25), (33, .ldc2_w 246), (36, .lload_n 3), (37, .lmul), (38, .aload_n 0), (39, .iload 5), (41, .iload 6), (43, .invokevirtual 287), (46, .i2l), (47, .ladd), (48, .lstore_n 3), (49, .iinc 6 1), (52, .goto (-25)), (55, .ldc2_w 246), (58, .lload_n 3), (59, .lmul), (60, .aload_n 0), (61, .getfield 33), (64, .iload 5), (66, .invokestatic 48), (69, .i2l), (70, .ladd), (71, .lstore_n 3), (72, .iinc 5 1), (75, .goto (-66)), (78, .lload_n 3), (79, .lreturn)]
theorem D_Gs_hashOfSections : gdec prog_1_method_28_code T_Gs_hashOfSections = true := by decide +kernel
def T_Gs_foreseeSections : List (Nat × Instr) := [(0, .iconst 0), (1, .istore_n 1), (2, .iload_n 1), (3, .aload_n 0), (4, .getfield 33), (7, .arraylength), (8, .if_icmp .ge 16), (11, .aload_n 0), (12, .getfield 33), (15, .iload_n 1), (16, .iconst (-1)), (17, .iastore), (18, .iinc 1 1), (21, .goto (-19)), (24, .aload_n 0), (25, .getfield 16), (28, .aload_n 0), (29, .getfield 10), (32, .invokevirtual 299), (35, .iconst 1), (36, .istore_n 1), (37, .iload_n 1), (38, .bipush 60), (40, .if_icmp .gt 34), (43, .aload_n 0), (44, .getfield 16), (47, .getfield 85), (50, .getfield 89), (53, .ifCond .le 21), (56, .aload_n 0), (57, .getfield 16), (60, .invokevirtual 130), (63, .aload_n 0), (64, .iload_n 1), (65, .invokevirtual 302), (68, .iinc 1 1), (71, .goto (-34)), (74, .return_)]
theorem D_Gs_foreseeSections : gdec prog_1_method_31_code T_Gs_foreseeSections = true := by decide +kernel
def T_Do_copyFrom : List (Nat × Instr) := [(0, .aload_n 0), (1, .getfield 12), (4, .aload_n 1), (5, .getfield 12), (8, .invokevirtual 48), (11, .aload_n 0), (12, .getfield 21), (15, .aload_n 1), (16, .getfield 21), (19, .invokevirtual 52), (22, .aload_n 1), (23, .getfield 25), (26, .aload_n 0), (27, .getfield 25), (30, .invokestatic 44), (33, .aload_n 1), (34, .getfield 29), (37, .aload_n 0), (38, .getfield 29), (41, .invokestatic 44), (44, .aload_n 1), (45, .getfield 32), (48, .aload_n 0), (49, .getfield 32), (52, .invokestatic 44), (55, .aload_n 1), (56, .getfield 35), (59, .aload_n 0), (60, .getfield 35), (63, .invokestatic 44), (66, .aload_n 1), (67, .getfield 38), (70, .aload_n 0), (71, .getfield 38), (74, .invokestatic 44), (77, .aload_n 0), (78, .aload_n 1), (79, .getfield 55), (82, .putfield 55), (85, .aload_n 0), (86, .aload_n 1), (87, .getfield 59), (90, .putfield 59), (93, .aload_n 0), (94, .aload_n 1), (95, .getfield 62), (98, .putfield 62), (101, .aload_n 0), (102, .aload_n 1), (103, .getfield 65), (106, .putfield 65), (109, .aload_n 0), (110, .aload_n 1), (111, .getfield 68), (114, .putfield 68), (117, .return_)]
theorem D_Do_copyFrom : gdec prog_2_method_2_code T_Do_copyFrom = true := by decide +kernel
def T_Tr_copyFrom : List (Nat × Instr) := [(0, .aload_n 1), (1, .getfield 9), (4, .aload_n 0), (5, .getfield 9), (8, .invokestatic 15), (11, .return_)]
theorem D_Tr_copyFrom : gdec prog_6_method_2_code T_Tr_copyFrom = true := by decide +kernel
def T_Se_copyFrom : List (Nat × Instr) := [(0, .aload_n 1), (1, .getfield 9), (4, .aload_n 0), (5, .getfield 9), (8, .invokestatic 15), (11, .aload_n 0), (12, .aload_n 1), (13, .getfield 19), (16, .putfield 19), (19, .aload_n 0), (20, .aload_n 1), (21, .getfield 23), (24, .putfield 23), (27, .return_)]
theorem D_Se_copyFrom : gdec prog_5_method_2_code T_Se_copyFrom = true := by decide +kernel
def T_Do_passDay : List (Nat × Instr) := [(0, .aload_n 0), (1, .getfield 25), (4, .iconst 3), (5, .iaload), (6, .istore_n 1), (7, .iconst 0), (8, .istore_n 2), (9, .iload_n 2), (10, .bipush 6), (12, .if_icmp .ge 52), (15, .iload_n 1), (16, .ifCond .le 48), (19, .aload_n 0), (20, .getfield 12), (23, .iload_n 2), (24, .invokevirtual 113), (27, .iconst 1), (28, .if_icmp .le 30), (31, .aload_n 0), (32, .getfield 12), (35, .iload_n 2), (36, .aload_n 0), (37, .getfield 25), (40, .iconst 1), (41, .iaload), (42, .invokevirtual 117), (45, .aload_n 0), (46, .dup), (47, .getfield 68), (50, .iconst 1), (51, .iadd), (52, .putfield 68), (55, .iinc 1 (-1)), (58, .iinc 2 1), (61, .goto (-52)), (64, .iconst 0), (65, .istore_n 2), (66, .iload_n 2), (67, .aload_n 0), (68, .getfield 21), (71, .getfield 121), (74, .if_icmp .ge 32), (77, .iload_n 1), (78, .ifCond .le 22), (81, .aload_n 0), (82, .iload_n 2), (83, .invokevirtual 124), (86, .ifCond .eq 14), (89, .aload_n 0), (90, .iload_n 2), (91, .invokevirtual 128), (94, .iinc 1 (-1)), (97, .goto (-20)), (100, .iinc 2 1), (103, .goto (-37)), (106, .aload_n 0), (107, .invokevirtual 131), (110, .aload_n 0), (111, .getfield 21), (114, .aload_n 0), (115, .getfield 25), (118, .iconst 2), (119, .iaload), (120, .invokevirtual 99), (123, .aload_n 0), (124, .dup), (125, .getfield 55), (128, .iconst 1), (129, .iadd), (130, .putfield 55), (133, .return_)]
theorem D_Do_passDay : gdec prog_2_method_9_code T_Do_passDay = true := by decide +kernel
def T_Tr_sortOut : List (Nat × Instr) := [(0, .aload_n 0), (1, .iload_n 1), (2, .invokevirtual 42), (5, .istore_n 3), (6, .iconst 0), (7, .istore 4), (9, .iload 4), (11, .iconst 4), (12, .if_icmp .ge 38), (15, .aload_n 0), (16, .invokevirtual 45), (19, .istore 5), (21, .iload 4), (23, .iload_n 3), (24, .if_icmp .eq 20), (27, .iload 5), (29, .iconst (-1)), (30, .if_icmp .eq 14), (33, .aload_n 0), (34, .iload_n 1), (35, .iload 5), (37, .iload 4), (39, .iload_n 2), (40, .invokevirtual 49), (43, .pop), (44, .iinc 4 1), (47, .goto (-38)), (50, .return_)]
theorem D_Tr_sortOut : gdec prog_6_method_14_code T_Tr_sortOut = true := by decide +kernel
def T_Tr_mostOf : List (Nat × Instr) := [(0, .iconst 0), (1, .istore_n 2), (2, .iconst 1), (3, .istore_n 3), (4, .iload_n 3), (5, .iconst 4), (6, .if_icmp .ge 26), (9, .aload_n 0), (10, .iload_n 1), (11, .iload_n 3), (12, .invokevirtual 19), (15, .aload_n 0), (16, .iload_n 1), (17, .iload_n 2), (18, .invokevirtual 19), (21, .if_icmp .le 5), (24, .iload_n 3), (25, .istore_n 2), (26, .iinc 3 1), (29, .goto (-25)), (32, .iload_n 2), (33, .ireturn)]
theorem D_Tr_mostOf : gdec prog_6_method_15_code T_Tr_mostOf = true := by decide +kernel
def T_Tr_lowestEmpty : List (Nat × Instr) := [(0, .iconst 0), (1, .istore_n 1), (2, .iload_n 1), (3, .bipush 6), (5, .if_icmp .ge 19), (8, .aload_n 0), (9, .iload_n 1), (10, .invokevirtual 32), (13, .ifCond .ne 5), (16, .iload_n 1), (17, .ireturn), (18, .iinc 1 1), (21, .goto (-19)), (24, .iconst (-1)), (25, .ireturn)]
theorem D_Tr_lowestEmpty : gdec prog_6_method_16_code T_Tr_lowestEmpty = true := by decide +kernel
def T_Tr_pour : List (Nat × Instr) := [(0, .aload_n 0), (1, .iload_n 1), (2, .iload_n 3), (3, .invokevirtual 19), (6, .iload 4), (8, .invokestatic 35), (11, .istore 5), (13, .aload_n 0), (14, .iload_n 1), (15, .iload_n 3), (16, .iload 5), (18, .ineg), (19, .invokevirtual 38), (22, .aload_n 0), (23, .iload_n 2), (24, .iload_n 3), (25, .iload 5), (27, .invokevirtual 38), (30, .iload 5), (32, .ireturn)]
theorem D_Tr_pour : gdec prog_6_method_12_code T_Tr_pour = true := by decide +kernel
def T_Tr_change : List (Nat × Instr) := [(0, .iload_n 1), (1, .ifCond .lt 32), (4, .iload_n 1), (5, .bipush 6), (7, .if_icmp .ge 26), (10, .iload_n 2), (11, .ifCond .lt 22), (14, .iload_n 2), (15, .iconst 4), (16, .if_icmp .ge 17), (19, .aload_n 0), (20, .getfield 9), (23, .iload_n 1), (24, .iconst 4), (25, .imul), (26, .iload_n 2), (27, .iadd), (28, .dup2), (29, .iaload), (30, .iload_n 3), (31, .iadd), (32, .iastore), (33, .return_)]
theorem D_Tr_change : gdec prog_6_method_4_code T_Tr_change = true := by decide +kernel
def T_Do_canBeLaid : List (Nat × Instr) := [(0, .aload_n 0), (1, .getfield 21), (4, .iload_n 1), (5, .iconst 2), (6, .invokevirtual 103), (9, .ifCond .le 26), (12, .aload_n 0), (13, .getfield 12), (16, .aload_n 0), (17, .getfield 21), (20, .iload_n 1), (21, .iconst 1), (22, .invokevirtual 103), (25, .invokevirtual 134), (28, .ifCond .le 7), (31, .iconst 1), (32, .goto 4), (35, .iconst 0), (36, .ireturn)]
theorem D_Do_canBeLaid : gdec prog_2_method_10_code T_Do_canBeLaid = true := by decide +kernel
def T_Se_valueOf : List (Nat × Instr) := [(0, .iload_n 1), (1, .ifCond .lt 24), (4, .iload_n 1), (5, .aload_n 0), (6, .getfield 19), (9, .if_icmp .ge 16), (12, .iload_n 2), (13, .ifCond .lt 12), (16, .iload_n 2), (17, .iconst 5), (18, .if_icmp .ge 7), (21, .iconst 1), (22, .goto 4), (25, .iconst 0), (26, .istore_n 3), (27, .iload_n 3), (28, .ifCond .eq 16), (31, .aload_n 0), (32, .getfield 9), (35, .iload_n 1), (36, .iconst 5), (37, .imul), (38, .iload_n 2), (39, .iadd), (40, .iaload), (41, .goto 4), (44, .iconst (-1)), (45, .ireturn)]
theorem D_Se_valueOf : gdec prog_5_method_3_code T_Se_valueOf = true := by decide +kernel
def T_Tr_readyOf : List (Nat × Instr) := [(0, .iconst 0), (1, .istore_n 2), (2, .iconst 0), (3, .istore_n 3), (4, .iload_n 3), (5, .bipush 6), (7, .if_icmp .ge 36), (10, .aload_n 0), (11, .iload_n 3), (12, .iload_n 1), (13, .invokevirtual 19), (16, .ifCond .le 21), (19, .aload_n 0), (20, .iload_n 3), (21, .invokevirtual 32), (24, .iconst 1), (25, .if_icmp .ne 12), (28, .iload_n 2), (29, .aload_n 0), (30, .iload_n 3), (31, .iload_n 1), (32, .invokevirtual 19), (35, .iadd), (36, .istore_n 2), (37, .iinc 3 1), (40, .goto (-36)), (43, .iload_n 2), (44, .ireturn)]
theorem D_Tr_readyOf : gdec prog_6_method_11_code T_Tr_readyOf = true := by decide +kernel
def T_Do_layOnce : List (Nat × Instr) := [(0, .aload_n 0), (1, .getfield 21), (4, .iload_n 1), (5, .iconst 1), (6, .invokevirtual 103), (9, .istore_n 2), (10, .aload_n 0), (11, .aload_n 0), (12, .getfield 21), (15, .iload_n 1), (16, .iconst 2), (17, .invokevirtual 103), (20, .invokevirtual 137), (23, .aload_n 0), (24, .getfield 25), (27, .iconst 4), (28, .iaload), (29, .invokestatic 75), (32, .istore_n 3), (33, .aload_n 0), (34, .getfield 12), (37, .iload_n 2), (38, .iload_n 3), (39, .invokevirtual 140), (42, .istore 4), (44, .aload_n 0), (45, .getfield 25), (48, .iconst 5), (49, .iaload), (50, .ifCond .le 15), (53, .iload 4), (55, .aload_n 0), (56, .getfield 25), (59, .iconst 5), (60, .iaload), (61, .idiv), (62, .goto 4), (65, .iconst 0), (66, .istore 5), (68, .aload_n 0), (69, .getfield 21), (72, .iload_n 1), (73, .iload 4), (75, .iload 5), (77, .isub), (78, .invokevirtual 143), (81, .aload_n 0), (82, .getfield 35), (85, .iload_n 2), (86, .iload 4), (88, .iload 5), (90, .isub), (91, .invokestatic 84), (94, .aload_n 0), (95, .getfield 38), (98, .iload_n 2), (99, .iload 5), (101, .invokestatic 84), (104, .return_)]
theorem D_Do_layOnce : gdec prog_2_method_11_code T_Do_layOnce = true := by decide +kernel
def T_Do_takenFor : List (Nat × Instr) := [(0, .aload_n 0), (1, .getfield 25), (4, .iconst 5), (5, .iaload), (6, .iconst 1), (7, .isub), (8, .istore_n 2), (9, .iload_n 2), (10, .iconst 1), (11, .if_icmp .ge 7), (14, .iload_n 1), (15, .goto 10), (18, .iload_n 1), (19, .iload_n 1), (20, .iconst 1), (21, .isub), (22, .iload_n 2), (23, .idiv), (24, .iadd), (25, .ireturn)]
theorem D_Do_takenFor : gdec prog_2_method_14_code T_Do_takenFor = true := by decide +kernel
def T_Tr_takeReady : List (Nat × Instr) := [(0, .iconst 0), (1, .istore_n 3), (2, .iconst 0), (3, .istore 4), (5, .iload 4), (7, .bipush 6), (9, .if_icmp .ge 64), (12, .iload_n 3), (13, .iload_n 2), (14, .if_icmp .ge 59), (17, .aload_n 0), (18, .iload 4), (20, .iload_n 1), (21, .invokevirtual 19), (24, .ifCond .le 43), (27, .aload_n 0), (28, .iload 4), (30, .invokevirtual 32), (33, .iconst 1), (34, .if_icmp .ne 33), (37, .iload_n 2), (38, .iload_n 3), (39, .isub), (40, .aload_n 0), (41, .iload 4), (43, .iload_n 1), (44, .invokevirtual 19), (47, .invokestatic 35), (50, .istore 5), (52, .aload_n 0), (53, .iload 4), (55, .iload_n 1), (56, .iload 5), (58, .ineg), (59, .invokevirtual 38), (62, .iload_n 3), (63, .iload 5), (65, .iadd), (66, .istore_n 3), (67, .iinc 4 1), (70, .goto (-65)), (73, .iload_n 3), (74, .ireturn)]
theorem D_Tr_takeReady : gdec prog_6_method_17_code T_Tr_takeReady = true := by decide +kernel
def T_Se_lay : List (Nat × Instr) := [(0, .aload_n 0), (1, .iload_n 1), (2, .iconst 2), (3, .aload_n 0), (4, .iload_n 1), (5, .iconst 2), (6, .invokevirtual 26), (9, .iload_n 2), (10, .isub), (11, .invokevirtual 30), (14, .aload_n 0), (15, .iload_n 1), (16, .iconst 4), (17, .aload_n 0), (18, .iload_n 1), (19, .iconst 4), (20, .invokevirtual 26), (23, .iload_n 2), (24, .iadd), (25, .invokevirtual 30), (28, .return_)]
theorem D_Se_lay : gdec prog_5_method_9_code T_Se_lay = true := by decide +kernel
def T_Se_put : List (Nat × Instr) := [(0, .iload_n 1), (1, .ifCond .lt 31), (4, .iload_n 1), (5, .aload_n 0), (6, .getfield 19), (9, .if_icmp .ge 23), (12, .iload_n 2), (13, .ifCond .lt 19), (16, .iload_n 2), (17, .iconst 5), (18, .if_icmp .ge 14), (21, .aload_n 0), (22, .getfield 9), (25, .iload_n 1), (26, .iconst 5), (27, .imul), (28, .iload_n 2), (29, .iadd), (30, .iload_n 3), (31, .iastore), (32, .return_)]
theorem D_Se_put : gdec prog_5_method_4_code T_Se_put = true := by decide +kernel
def T_Gs_addAt : List (Nat × Instr) := [(0, .iload_n 1), (1, .ifCond .lt 16), (4, .iload_n 1), (5, .aload_n 0), (6, .arraylength), (7, .if_icmp .ge 10), (10, .aload_n 0), (11, .iload_n 1), (12, .dup2), (13, .iaload), (14, .iload_n 2), (15, .iadd), (16, .iastore), (17, .return_)]
theorem D_Gs_addAt : gdec prog_1_method_39_code T_Gs_addAt = true := by decide +kernel
def T_Do_dismissDone : List (Nat × Instr) := [(0, .aload_n 0), (1, .getfield 21), (4, .getfield 121), (7, .iconst 1), (8, .isub), (9, .istore_n 1), (10, .iload_n 1), (11, .ifCond .lt 47), (14, .aload_n 0), (15, .getfield 21), (18, .iload_n 1), (19, .iconst 2), (20, .invokevirtual 103), (23, .ifCond .ne 29), (26, .aload_n 0), (27, .aload_n 0), (28, .getfield 55), (31, .aload_n 0), (32, .getfield 21), (35, .iload_n 1), (36, .iconst 3), (37, .invokevirtual 103), (40, .isub), (41, .invokevirtual 146), (44, .aload_n 0), (45, .getfield 21), (48, .iload_n 1), (49, .invokevirtual 106), (52, .iinc 1 (-1)), (55, .goto (-45)), (58, .return_)]
theorem D_Do_dismissDone : gdec prog_2_method_12_code T_Do_dismissDone = true := by decide +kernel
def T_Do_countDone : List (Nat × Instr) := [(0, .aload_n 0), (1, .dup), (2, .getfield 59), (5, .iconst 1), (6, .iadd), (7, .putfield 59), (10, .iload_n 1), (11, .ifCond .le 23), (14, .aload_n 0), (15, .dup), (16, .getfield 62), (19, .iconst 1), (20, .iadd), (21, .putfield 62), (24, .aload_n 0), (25, .dup), (26, .getfield 65), (29, .iload_n 1), (30, .iadd), (31, .putfield 65), (34, .return_)]
theorem D_Do_countDone : gdec prog_2_method_13_code T_Do_countDone = true := by decide +kernel
def T_Se_remove : List (Nat × Instr) := [(0, .iload_n 1), (1, .ifCond .lt 11), (4, .iload_n 1), (5, .aload_n 0), (6, .getfield 19), (9, .if_icmp .lt 4), (12, .return_), (13, .iload_n 1), (14, .iconst 1), (15, .iadd), (16, .istore_n 2), (17, .iload_n 2), (18, .aload_n 0), (19, .getfield 19), (22, .if_icmp .ge 36), (25, .iconst 0), (26, .istore_n 3), (27, .iload_n 3), (28, .iconst 5), (29, .if_icmp .ge 23), (32, .aload_n 0), (33, .iload_n 2), (34, .iconst 1), (35, .isub), (36, .iload_n 3), (37, .aload_n 0), (38, .iload_n 2), (39, .iload_n 3), (40, .invokevirtual 26), (43, .invokevirtual 30), (46, .iinc 3 1), (49, .goto (-22)), (52, .iinc 2 1), (55, .goto (-38)), (58, .aload_n 0), (59, .dup), (60, .getfield 19), (63, .iconst 1), (64, .isub), (65, .putfield 19), (68, .return_)]
theorem D_Se_remove : gdec prog_5_method_8_code T_Se_remove = true := by decide +kernel
def T_Se_arrange : List (Nat × Instr) := [(0, .iload_n 1), (1, .ifCond .ne 7), (4, .iconst 3), (5, .goto 4), (8, .iconst 2), (9, .istore_n 2), (10, .iconst 1), (11, .istore_n 3), (12, .iload_n 3), (13, .aload_n 0), (14, .getfield 19), (17, .if_icmp .ge 47), (20, .iload_n 3), (21, .istore 4), (23, .iload 4), (25, .ifCond .le 33), (28, .aload_n 0), (29, .iload 4), (31, .iload 4), (33, .iconst 1), (34, .isub), (35, .iload_n 2), (36, .invokevirtual 34), (39, .ifCond .eq 19), (42, .aload_n 0), (43, .iload 4), (45, .iload 4), (47, .iconst 1), (48, .isub), (49, .invokevirtual 38), (52, .iinc 4 (-1)), (55, .goto (-32)), (58, .iinc 3 1), (61, .goto (-49)), (64, .return_)]
theorem D_Se_arrange : gdec prog_5_method_10_code T_Se_arrange = true := by decide +kernel
def T_Se_comesBefore : List (Nat × Instr) := [(0, .aload_n 0), (1, .iload_n 1), (2, .iload_n 3), (3, .invokevirtual 26), (6, .istore 4), (8, .aload_n 0), (9, .iload_n 2), (10, .iload_n 3), (11, .invokevirtual 26), (14, .istore 5), (16, .iload 4), (18, .iload 5), (20, .if_icmp .eq 18), (23, .iload 4), (25, .iload 5), (27, .if_icmp .ge 7), (30, .iconst 1), (31, .goto 27), (34, .iconst 0), (35, .goto 23), (38, .aload_n 0), (39, .iload_n 1), (40, .iconst 0), (41, .invokevirtual 26), (44, .aload_n 0), (45, .iload_n 2), (46, .iconst 0), (47, .invokevirtual 26), (50, .if_icmp .ge 7), (53, .iconst 1), (54, .goto 4), (57, .iconst 0), (58, .ireturn)]
theorem D_Se_comesBefore : gdec prog_5_method_11_code T_Se_comesBefore = true := by decide +kernel
def T_Se_swap : List (Nat × Instr) := [(0, .iconst 0), (1, .istore_n 3), (2, .iload_n 3), (3, .iconst 5), (4, .if_icmp .ge 37), (7, .aload_n 0), (8, .iload_n 1), (9, .iload_n 3), (10, .invokevirtual 26), (13, .istore 4), (15, .aload_n 0), (16, .iload_n 1), (17, .iload_n 3), (18, .aload_n 0), (19, .iload_n 2), (20, .iload_n 3), (21, .invokevirtual 26), (24, .invokevirtual 30), (27, .aload_n 0), (28, .iload_n 2), (29, .iload_n 3), (30, .iload 4), (32, .invokevirtual 30), (35, .iinc 3 1), (38, .goto (-36)), (41, .return_)]
theorem D_Se_swap : gdec prog_5_method_12_code T_Se_swap = true := by decide +kernel
def T_Gs_noteDone : List (Nat × Instr) := [(0, .iconst 0), (1, .istore_n 2), (2, .iload_n 2), (3, .aload_n 0), (4, .getfield 10), (7, .getfield 85), (10, .getfield 89), (13, .if_icmp .ge 63), (16, .iload_n 2), (17, .aload_n 0), (18, .getfield 33), (21, .arraylength), (22, .if_icmp .ge 54), (25, .aload_n 0), (26, .getfield 10), (29, .getfield 85), (32, .iload_n 2), (33, .iconst 0), (34, .invokevirtual 189), (37, .istore_n 3), (38, .aload_n 0), (39, .getfield 33), (42, .iload_n 2), (43, .iaload), (44, .iconst (-1)), (45, .if_icmp .ne 25), (48, .aload_n 0), (49, .getfield 16), (52, .getfield 85), (55, .iload_n 3), (56, .invokevirtual 305), (59, .iconst (-1)), (60, .if_icmp .ne 10), (63, .aload_n 0), (64, .getfield 33), (67, .iload_n 2), (68, .iload_n 1), (69, .iastore), (70, .iinc 2 1), (73, .goto (-71)), (76, .return_)]
theorem D_Gs_noteDone : gdec prog_1_method_32_code T_Gs_noteDone = true := by decide +kernel
def T_Se_placeOf : List (Nat × Instr) := [(0, .iconst 0), (1, .istore_n 2), (2, .iload_n 2), (3, .aload_n 0), (4, .getfield 19), (7, .if_icmp .ge 21), (10, .aload_n 0), (11, .iload_n 2), (12, .iconst 0), (13, .invokevirtual 26), (16, .iload_n 1), (17, .if_icmp .ne 5), (20, .iload_n 2), (21, .ireturn), (22, .iinc 2 1), (25, .goto (-23)), (28, .iconst (-1)), (29, .ireturn)]
theorem D_Se_placeOf : gdec prog_5_method_5_code T_Se_placeOf = true := by decide +kernel
def T_Gs_sectionOf : List (Nat × Instr) := [(0, .iload_n 1), (1, .ifCond .ge 13), (4, .new 73), (7, .dup), (8, .ldc 187), (10, .invokespecial 77), (13, .athrow), (14, .iload_n 2), (15, .iconst 0), (16, .iconst 5), (17, .invokestatic 41), (20, .iload_n 1), (21, .aload_n 0), (22, .getfield 10), (25, .getfield 85), (28, .getfield 89), (31, .if_icmp .lt 5), (34, .iconst (-1)), (35, .ireturn), (36, .iload_n 2), (37, .iconst 5), (38, .if_icmp .ne 31), (41, .aload_n 0), (42, .getfield 10), (45, .getfield 118), (48, .aload_n 0), (49, .getfield 10), (52, .getfield 85), (55, .iload_n 1), (56, .iconst 3), (57, .invokevirtual 189), (60, .if_icmp .le 7), (63, .iconst 1), (64, .goto 4), (67, .iconst 0), (68, .ireturn), (69, .aload_n 0), (70, .getfield 10), (73, .getfield 85), (76, .iload_n 1), (77, .iload_n 2), (78, .invokevirtual 189), (81, .ireturn)]
theorem D_Gs_sectionOf : gdec prog_1_method_16_code T_Gs_sectionOf = true := by decide +kernel
def T_Gs_requireRange : List (Nat × Instr) := [(0, .iload_n 0), (1, .iload_n 1), (2, .if_icmp .lt 8), (5, .iload_n 0), (6, .iload_n 2), (7, .if_icmp .le 14), (10, .new 73), (13, .dup), (14, .ldc_w 315), (17, .invokespecial 77), (20, .athrow), (21, .return_)]
theorem D_Gs_requireRange : gdec prog_1_method_36_code T_Gs_requireRange = true := by decide +kernel
def T_Gs_hashOfTones : List (Nat × Instr) := [(0, .lload_n 1), (1, .lstore_n 3), (2, .iconst 0), (3, .istore 5), (5, .iload 5), (7, .iconst 4), (8, .if_icmp .ge 55), (11, .iconst 0), (12, .istore 6), (14, .iload 6), (16, .bipush 6), (18, .if_icmp .gt 25), (21, .ldc2_w 246), (24, .lload_n 3), (25, .lmul), (26, .aload_n 0), (27, .iload 5), (29, .iload 6), (31, .invokevirtual 290), (34, .i2l), (35, .ladd), (36, .lstore_n 3), (37, .iinc 6 1), (40, .goto (-26)), (43, .ldc2_w 246), (46, .lload_n 3), (47, .lmul), (48, .aload_n 0), (49, .iload 5), (51, .invokevirtual 293), (54, .i2l), (55, .ladd), (56, .lstore_n 3), (57, .iinc 5 1), (60, .goto (-55)), (63, .lload_n 3), (64, .lreturn)]
theorem D_Gs_hashOfTones : gdec prog_1_method_29_code T_Gs_hashOfTones = true := by decide +kernel
def T_Gs_tone : List (Nat × Instr) := [(0, .iload_n 1), (1, .iconst 4), (2, .invokestatic 37), (5, .iload_n 2), (48, .aload_n 0), (49, .getfield 10), (52, .getfield 45), (55, .iload_n 1), (56, .invokestatic 48), (59, .ireturn), (60, .aload_n 0), (61, .getfield 10), (64, .getfield 175), (67, .iload_n 1), (68, .invokevirtual 192), (71, .ireturn), (72, .aload_n 0), (73, .getfield 10), (76, .getfield 175), (79, .iload_n 1), (80, .invokevirtual 195), (83, .ireturn), (84, .aload_n 0), (85, .getfield 10), (88, .getfield 198), (91, .iload_n 1), (92, .invokestatic 48), (95, .ireturn), (96, .aload_n 0), (97, .getfield 10), (100, .getfield 123), (103, .iload_n 1), (104, .invokestatic 48), (107, .ireturn), (108, .aload_n 0), (109, .getfield 10), (112, .getfield 201), (115, .iload_n 1), (116, .invokestatic 48), (119, .ireturn), (120, .aload_n 0), (121, .getfield 10), (124, .getfield 85), (127, .iload_n 1), (128, .invokevirtual 204), (131, .ireturn), (132, .new 73), (135, .dup), (136, .ldc 207), (138, .invokespecial 77), (141, .athrow)]
theorem D_Gs_tone : gdec prog_1_method_17_code T_Gs_tone = true := by decide +kernel
theorem S_Gs_tone_6 : decode prog_1_method_17_code 6 = .ok (.tableswitch 126 0 6 #[42, 54, 66, 78, 90, 102, 114], 42) := by decide +kernel
def T_Tr_heldOf : List (Nat × Instr) := [(0, .iconst 0), (1, .istore_n 2), (2, .iconst 0), (3, .istore_n 3), (4, .iload_n 3), (5, .bipush 6), (7, .if_icmp .ge 18), (10, .iload_n 2), (11, .aload_n 0), (12, .iload_n 3), (13, .iload_n 1), (14, .invokevirtual 19), (17, .iadd), (18, .istore_n 2), (19, .iinc 3 1), (22, .goto (-18)), (25, .iload_n 2), (26, .ireturn)]
theorem D_Tr_heldOf : gdec prog_6_method_10_code T_Tr_heldOf = true := by decide +kernel
def T_Se_wantedOf : List (Nat × Instr) := [(0, .iconst 0), (1, .istore_n 2), (2, .iconst 0), (3, .istore_n 3), (4, .iload_n 3), (5, .aload_n 0), (6, .getfield 19), (9, .if_icmp .ge 28), (12, .aload_n 0), (13, .iload_n 3), (14, .iconst 1), (15, .invokevirtual 26), (18, .iload_n 1), (19, .if_icmp .ne 12), (22, .iload_n 2), (23, .aload_n 0), (24, .iload_n 3), (25, .iconst 2), (26, .invokevirtual 26), (29, .iadd), (30, .istore_n 2), (31, .iinc 3 1), (34, .goto (-30)), (37, .iload_n 2), (38, .ireturn)]
theorem D_Se_wantedOf : gdec prog_5_method_6_code T_Se_wantedOf = true := by decide +kernel
def T_Gs_missing : List (Nat × Instr) := [(0, .iload_n 1), (1, .iconst 4), (2, .invokestatic 37), (5, .aload_n 0), (6, .getfield 10), (9, .iload_n 1), (10, .invokevirtual 235), (13, .ireturn)]
theorem D_Gs_missing : gdec prog_1_method_21_code T_Gs_missing = true := by decide +kernel
def T_Do_missingSheets : List (Nat × Instr) := [(0, .aload_n 0), (1, .getfield 25), (4, .iconst 0), (5, .iaload), (6, .istore_n 2), (7, .aload_n 0), (8, .getfield 29), (11, .iload_n 1), (12, .invokestatic 109), (15, .ineg), (16, .iload_n 2), (17, .imul), (18, .aload_n 0), (19, .getfield 12), (22, .iload_n 1), (23, .invokevirtual 149), (26, .isub), (27, .istore_n 3), (28, .iconst 0), (29, .istore 4), (31, .iload 4), (33, .aload_n 0), (34, .getfield 21), (37, .getfield 121), (40, .if_icmp .ge 40), (43, .aload_n 0), (44, .getfield 21), (47, .iload 4), (49, .iconst 1), (50, .invokevirtual 103), (53, .iload_n 1), (54, .if_icmp .ne 20), (57, .iload_n 3), (58, .aload_n 0), (59, .aload_n 0), (60, .getfield 21), (63, .iload 4), (65, .iconst 2), (66, .invokevirtual 103), (69, .invokevirtual 137), (72, .iadd), (73, .istore_n 3), (74, .iinc 4 1), (77, .goto (-46)), (80, .iload_n 3), (81, .iconst 1), (82, .if_icmp .lt 8), (85, .iload_n 2), (86, .iconst 1), (87, .if_icmp .ge 7), (90, .iconst 0), (91, .goto 10), (94, .iload_n 3), (95, .iload_n 2), (96, .iadd), (97, .iconst 1), (98, .isub), (99, .iload_n 2), (100, .idiv), (101, .ireturn)]
theorem D_Do_missingSheets : gdec prog_2_method_15_code T_Do_missingSheets = true := by decide +kernel
def T_Gs_taken : List (Nat × Instr) := [(0, .iload_n 1), (1, .iconst 1), (2, .sipush 500), (5, .invokestatic 41), (8, .aload_n 0), (9, .getfield 10), (12, .iload_n 1), (13, .invokevirtual 232), (16, .ireturn)]
theorem D_Gs_taken : gdec prog_1_method_20_code T_Gs_taken = true := by decide +kernel
def T_Gs_ifPassed : List (Nat × Instr) := [(0, .iload_n 1), (1, .iconst 1), (2, .bipush 60), (4, .invokestatic 41), (7, .iload_n 2), (8, .iconst 0), (9, .iconst 3), (10, .invokestatic 41), (13, .aload_n 0), (14, .iload_n 1), (15, .aload_n 0), (16, .getfield 10), (19, .getfield 229), (22, .iconst 2), (23, .invokestatic 48), (26, .invokevirtual 238), (29, .iload_n 2), (56, .aload_n 0), (57, .getfield 16), (60, .getfield 123), (63, .invokestatic 126), (66, .aload_n 0), (67, .getfield 10), (70, .getfield 123), (73, .invokestatic 126), (76, .isub), (77, .ireturn), (78, .aload_n 0), (79, .getfield 16), (82, .getfield 209), (85, .aload_n 0), (86, .getfield 10), (89, .getfield 209), (92, .isub), (93, .ireturn), (94, .aload_n 0), (95, .getfield 16), (98, .getfield 215), (101, .aload_n 0), (102, .getfield 10), (105, .getfield 215), (108, .isub), (109, .ireturn), (110, .aload_n 0), (111, .getfield 16), (114, .getfield 201), (117, .invokestatic 126), (120, .aload_n 0), (121, .getfield 10), (124, .getfield 201), (127, .invokestatic 126), (130, .isub), (131, .ireturn)]
theorem D_Gs_ifPassed : gdec prog_1_method_22_code T_Gs_ifPassed = true := by decide +kernel
theorem S_Gs_ifPassed_30 : decode prog_1_method_22_code 30 = .ok (.tableswitch 80 0 2 #[26, 48, 64], 26) := by decide +kernel
def T_Gs_passTrial : List (Nat × Instr) := [(0, .aload_n 0), (1, .getfield 16), (4, .aload_n 0), (5, .getfield 10), (8, .invokevirtual 299), (11, .aload_n 0), (12, .getfield 16), (15, .iconst 2), (16, .iload_n 2), (17, .invokevirtual 115), (20, .pop), (21, .iconst 0), (22, .istore_n 3), (23, .iload_n 3), (24, .iload_n 1), (25, .if_icmp .ge 16), (28, .aload_n 0), (29, .getfield 16), (32, .invokevirtual 130), (35, .iinc 3 1), (38, .goto (-15)), (41, .return_)]
theorem D_Gs_passTrial : gdec prog_1_method_33_code T_Gs_passTrial = true := by decide +kernel
def T_Do_changeSetting : List (Nat × Instr) := [(0, .aload_n 0), (1, .getfield 25), (4, .iload_n 1), (5, .invokestatic 109), (8, .istore_n 3), (9, .aload_n 0), (10, .getfield 25), (13, .iload_n 1), (14, .iload_n 2), (15, .iload_n 3), (16, .isub), (17, .invokestatic 84), (20, .aload_n 0), (21, .getfield 21), (24, .aload_n 0), (25, .getfield 25), (28, .iconst 2), (29, .iaload), (30, .invokevirtual 99), (33, .iload_n 3), (34, .ireturn)]
theorem D_Do_changeSetting : gdec prog_2_method_8_code T_Do_changeSetting = true := by decide +kernel
def T_Gs_bestOrder : List (Nat × Instr) := [(0, .iload_n 1), (1, .iconst 1), (2, .bipush 30), (4, .invokestatic 41), (7, .aload_n 0), (8, .iload_n 1), (9, .iconst 0), (10, .invokevirtual 238), (13, .aload_n 0), (14, .getfield 16), (17, .getfield 209), (20, .istore_n 2), (21, .aload_n 0), (22, .getfield 16), (25, .getfield 215), (28, .istore_n 3), (29, .aload_n 0), (30, .iload_n 1), (31, .iconst 1), (32, .invokevirtual 238), (35, .aload_n 0), (36, .getfield 16), (39, .getfield 209), (42, .iload_n 2), (43, .if_icmp .eq 20), (46, .aload_n 0), (47, .getfield 16), (50, .getfield 209), (53, .iload_n 2), (54, .if_icmp .le 7), (57, .iconst 1), (58, .goto 4), (61, .iconst 0), (62, .ireturn), (63, .aload_n 0), (64, .getfield 16), (67, .getfield 215), (70, .iload_n 3), (71, .if_icmp .ge 7), (74, .iconst 1), (75, .goto 4), (78, .iconst 0), (79, .ireturn)]
theorem D_Gs_bestOrder : gdec prog_1_method_24_code T_Gs_bestOrder = true := by decide +kernel
def T_Gs_bitsOf : List (Nat × Instr) := [(0, .dload_n 0), (1, .dconst 0), (2, .dcmp .g), (3, .ifCond .gt 5), (6, .lconst 0), (7, .lreturn), (8, .dload_n 0), (9, .dstore_n 2), (10, .ldc2_w 317), (13, .lstore 4), (15, .dload_n 2), (16, .dconst 1), (17, .dcmp .g), (18, .ifCond .ge 25), (21, .lload 4), (23, .lconst 1), (24, .lcmp), (25, .ifCond .le 18), (28, .dload_n 2), (29, .ldc2_w 319), (32, .dmul), (33, .dstore_n 2), (34, .lload 4), (36, .lconst 1), (37, .lsub), (38, .lstore 4), (40, .goto (-25)), (43, .lload 4), (45, .bipush 52), (47, .lshl), (48, .dload_n 2), (49, .dconst 1), (50, .dsub), (51, .ldc2_w 321), (54, .dmul), (55, .d2l), (56, .ladd), (57, .lreturn)]
theorem D_Gs_bitsOf : gdec prog_1_method_37_code T_Gs_bitsOf = true := by decide +kernel
def T_Gs_hashOfText : List (Nat × Instr) := [(0, .ldc2_w 246), (3, .lload_n 1), (4, .lmul), (5, .aload_n 0), (6, .getfield 29), (9, .getfield 133), (12, .i2l), (13, .ladd), (14, .lstore_n 3), (15, .iconst 0), (16, .istore 5), (18, .iload 5), (20, .aload_n 0), (21, .getfield 29), (24, .getfield 133), (27, .if_icmp .ge 29), (30, .ldc2_w 246), (33, .lload_n 3), (34, .lmul), (35, .aload_n 0), (36, .getfield 29), (39, .getfield 296), (42, .iload 5), (44, .invokestatic 48), (47, .i2l), (48, .ladd), (49, .lstore_n 3), (50, .iinc 5 1), (53, .goto (-35)), (56, .lload_n 3), (57, .lreturn)]
theorem D_Gs_hashOfText : gdec prog_1_method_30_code T_Gs_hashOfText = true := by decide +kernel
def T_Lw_store : List (Nat × Instr) := [(0, .aload_n 3), (1, .iconst 0), (2, .aload_n 0), (3, .iload_n 1), (4, .iload_n 2), (5, .invokevirtual 7), (8, .i2l), (9, .lastore), (10, .goto 15), (13, .astore 4), (15, .iconst 1), (16, .ireturn), (17, .astore 4), (19, .iconst 2), (20, .ireturn), (21, .astore 4), (23, .iconst 3), (24, .ireturn), (25, .iconst 0), (26, .ireturn)]
theorem D_Lw_store : gdec method_3_code T_Lw_store = true := by decide +kernel
def T_Gs_store : List (Nat × Instr) := [(0, .iload_n 1), (1, .iconst 4), (2, .invokestatic 37), (5, .iload_n 2), (6, .iconst 1), (7, .bipush 99), (9, .invokestatic 41), (12, .aload_n 0), (13, .getfield 10), (16, .getfield 45), (19, .iload_n 1), (20, .invokestatic 48), (23, .iload_n 2), (24, .iadd), (25, .sipush 999), (28, .if_icmp .le 13), (31, .new 52), (34, .dup), (35, .ldc 54), (37, .invokespecial 56), (40, .athrow), (41, .aload_n 0), (42, .getfield 22), (45, .aload_n 0), (46, .getfield 10), (49, .invokevirtual 59), (52, .aload_n 0), (53, .getfield 10), (56, .getfield 45), (59, .iload_n 1), (60, .iload_n 2), (61, .invokestatic 63), (64, .aload_n 0), (65, .getfield 10), (68, .getfield 45), (71, .iload_n 1), (72, .invokestatic 48), (75, .ireturn)]
theorem D_Gs_store : gdec prog_1_method_2_code T_Gs_store = true := by decide +kernel
def T_Hi_save : List (Nat × Instr) := [(0, .aload_n 0), (1, .getfield 18), (4, .bipush 6), (6, .if_icmp .lt 7), (9, .aload_n 0), (10, .invokevirtual 22), (13, .aload_n 0), (14, .aload_n 0), (15, .getfield 18), (18, .invokevirtual 25), (21, .astore_n 2), (22, .aload_n 2), (23, .ifnull 18), (26, .aload_n 2), (27, .aload_n 1), (28, .invokevirtual 29), (31, .aload_n 0), (32, .dup), (33, .getfield 18), (36, .iconst 1), (37, .iadd), (38, .putfield 18), (41, .return_)]
theorem D_Hi_save : gdec prog_3_method_2_code T_Hi_save = true := by decide +kernel
def T_Hi_dropOldest : List (Nat × Instr) := [(0, .aload_n 0), (1, .getfield 11), (4, .iconst 0), (5, .aaload), (6, .astore_n 1), (7, .iconst 1), (8, .istore_n 2), (9, .iload_n 2), (10, .bipush 6), (12, .if_icmp .ge 23), (15, .aload_n 0), (16, .getfield 11), (19, .iload_n 2), (20, .iconst 1), (21, .isub), (22, .aload_n 0), (23, .getfield 11), (26, .iload_n 2), (27, .aaload), (28, .aastore), (29, .iinc 2 1), (32, .goto (-23)), (35, .aload_n 0), (36, .getfield 11), (39, .iconst 5), (40, .aload_n 1), (41, .aastore), (42, .aload_n 0), (43, .dup), (44, .getfield 18), (47, .iconst 1), (48, .isub), (49, .putfield 18), (52, .return_)]
theorem D_Hi_dropOldest : gdec prog_3_method_5_code T_Hi_dropOldest = true := by decide +kernel
def T_Hi_slotAt : List (Nat × Instr) := [(0, .iload_n 1), (1, .ifCond .lt 18), (4, .iload_n 1), (5, .bipush 6), (7, .if_icmp .ge 12), (10, .aload_n 0), (11, .getfield 11), (14, .iload_n 1), (15, .aaload), (16, .goto 4), (19, .aconst_null), (20, .areturn)]
theorem D_Hi_slotAt : gdec prog_3_method_4_code T_Hi_slotAt = true := by decide +kernel
def T_Lw_cut : List (Nat × Instr) := [(0, .aload_n 3), (1, .iconst 0), (2, .aload_n 0), (3, .iload_n 1), (4, .iload_n 2), (5, .invokevirtual 19), (8, .i2l), (9, .lastore), (10, .goto 11), (13, .astore 4), (15, .iconst 1), (16, .ireturn), (17, .astore 4), (19, .iconst 2), (20, .ireturn), (21, .iconst 0), (22, .ireturn)]
theorem D_Lw_cut : gdec method_4_code T_Lw_cut = true := by decide +kernel
def T_Gs_cut : List (Nat × Instr) := [(0, .iload_n 1), (1, .iconst 4), (2, .invokestatic 37), (5, .iload_n 2), (6, .bipush 6), (8, .invokestatic 37), (11, .aload_n 0), (12, .getfield 10), (15, .getfield 45), (18, .iload_n 1), (19, .invokestatic 48), (22, .iconst 1), (23, .if_icmp .ge 13), (26, .new 52), (29, .dup), (30, .ldc 67), (32, .invokespecial 56), (35, .athrow), (36, .aload_n 0), (37, .getfield 22), (40, .aload_n 0), (41, .getfield 10), (44, .invokevirtual 59), (47, .aload_n 0), (48, .getfield 10), (51, .iload_n 1), (52, .iload_n 2), (53, .invokevirtual 69), (56, .ireturn)]
theorem D_Gs_cut : gdec prog_1_method_3_code T_Gs_cut = true := by decide +kernel
def T_Do_cutSheet : List (Nat × Instr) := [(0, .aload_n 0), (1, .getfield 25), (4, .iconst 0), (5, .iaload), (6, .istore_n 3), (7, .iload_n 3), (8, .aload_n 0), (9, .getfield 12), (12, .iload_n 2), (13, .aload_n 0), (14, .getfield 25), (17, .iconst 1), (18, .iaload), (19, .invokevirtual 71), (22, .invokestatic 75), (25, .istore 4), (27, .aload_n 0), (28, .getfield 12), (31, .iload_n 2), (32, .iload_n 1), (33, .iload 4), (35, .invokevirtual 80), (38, .aload_n 0), (39, .getfield 29), (42, .iload_n 1), (43, .iconst (-1)), (44, .invokestatic 84), (47, .aload_n 0), (48, .getfield 32), (51, .iload_n 1), (52, .iload_n 3), (53, .invokestatic 84), (56, .aload_n 0), (57, .getfield 38), (60, .iload_n 1), (61, .iload_n 3), (62, .iload 4), (64, .isub), (65, .invokestatic 84), (68, .iload 4), (70, .ireturn)]
theorem D_Do_cutSheet : gdec prog_2_method_3_code T_Do_cutSheet = true := by decide +kernel
def T_Tr_freeIn : List (Nat × Instr) := [(0, .iconst 0), (1, .iload_n 2), (2, .aload_n 0), (3, .iload_n 1), (4, .invokevirtual 23), (7, .isub), (8, .invokestatic 27), (11, .ireturn)]
theorem D_Tr_freeIn : gdec prog_6_method_6_code T_Tr_freeIn = true := by decide +kernel
def T_Lw_tip : List (Nat × Instr) := [(0, .aload_n 3), (1, .iconst 0), (2, .aload_n 0), (3, .iload_n 1), (4, .iload_n 2), (5, .invokevirtual 22), (8, .i2l), (9, .lastore), (10, .goto 11), (13, .astore 4), (15, .iconst 1), (16, .ireturn), (17, .astore 4), (19, .iconst 2), (20, .ireturn), (21, .iconst 0), (22, .ireturn)]
theorem D_Lw_tip : gdec method_5_code T_Lw_tip = true := by decide +kernel
def T_Gs_tip : List (Nat × Instr) := [(0, .iload_n 1), (1, .bipush 6), (3, .invokestatic 37), (6, .iload_n 2), (7, .bipush 6), (9, .invokestatic 37), (12, .iload_n 1), (13, .iload_n 2), (14, .if_icmp .ne 13), (17, .new 73), (20, .dup), (21, .ldc 75), (23, .invokespecial 77), (26, .athrow), (27, .aload_n 0), (28, .getfield 22), (31, .aload_n 0), (32, .getfield 10), (35, .invokevirtual 59), (38, .aload_n 0), (39, .getfield 10), (42, .iload_n 1), (43, .iload_n 2), (44, .invokevirtual 78), (47, .ireturn)]
theorem D_Gs_tip : gdec prog_1_method_4_code T_Gs_tip = true := by decide +kernel
def T_Do_tipTray : List (Nat × Instr) := [(0, .iconst 0), (1, .istore_n 3), (2, .iconst 0), (3, .istore 4), (5, .iload 4), (7, .iconst 4), (8, .if_icmp .ge 37), (11, .iload_n 3), (12, .aload_n 0), (13, .getfield 12), (16, .iload_n 1), (17, .iload_n 2), (18, .iload 4), (20, .aload_n 0), (21, .getfield 12), (24, .iload_n 2), (25, .aload_n 0), (26, .getfield 25), (29, .iconst 1), (30, .iaload), (31, .invokevirtual 71), (34, .invokevirtual 88), (37, .iadd), (38, .istore_n 3), (39, .iinc 4 1), (42, .goto (-37)), (45, .iload_n 3), (46, .ireturn)]
theorem D_Do_tipTray : gdec prog_2_method_4_code T_Do_tipTray = true := by decide +kernel
def T_Lw_sweep : List (Nat × Instr) := [(0, .aload_n 2), (1, .iconst 0), (2, .aload_n 0), (3, .iload_n 1), (4, .invokevirtual 25), (7, .i2l), (8, .lastore), (9, .goto 6), (12, .astore_n 3), (13, .iconst 1), (14, .ireturn), (15, .iconst 0), (16, .ireturn)]
theorem D_Lw_sweep : gdec method_6_code T_Lw_sweep = true := by decide +kernel
def T_Gs_sweep : List (Nat × Instr) := [(0, .iload_n 1), (1, .bipush 6), (3, .invokestatic 37), (6, .aload_n 0), (7, .getfield 22), (10, .aload_n 0), (11, .getfield 10), (14, .invokevirtual 59), (17, .aload_n 0), (18, .getfield 10), (21, .iload_n 1), (22, .invokevirtual 81), (25, .ireturn)]
theorem D_Gs_sweep : gdec prog_1_method_5_code T_Gs_sweep = true := by decide +kernel
def T_Do_sweepTray : List (Nat × Instr) := [(0, .iconst 0), (1, .istore_n 2), (2, .iconst 0), (3, .istore_n 3), (4, .iload_n 3), (5, .iconst 4), (6, .if_icmp .ge 35), (9, .aload_n 0), (10, .getfield 12), (13, .iload_n 1), (14, .iload_n 3), (15, .invokevirtual 92), (18, .istore 4), (20, .aload_n 0), (21, .getfield 38), (24, .iload_n 3), (25, .iload 4), (27, .invokestatic 84), (30, .iload_n 2), (31, .iload 4), (33, .iadd), (34, .istore_n 2), (35, .iinc 3 1), (38, .goto (-34)), (41, .iload_n 2), (42, .ireturn)]
theorem D_Do_sweepTray : gdec prog_2_method_5_code T_Do_sweepTray = true := by decide +kernel
def T_Tr_clear : List (Nat × Instr) := [(0, .aload_n 0), (1, .iload_n 1), (2, .iload_n 2), (3, .invokevirtual 19), (6, .istore_n 3), (7, .aload_n 0), (8, .iload_n 1), (9, .iload_n 2), (10, .iload_n 3), (11, .ineg), (12, .invokevirtual 38), (15, .iload_n 3), (16, .ireturn)]
theorem D_Tr_clear : gdec prog_6_method_13_code T_Tr_clear = true := by decide +kernel
def T_Lw_section : List (Nat × Instr) := [(0, .aload 4), (2, .iconst 0), (3, .aload_n 0), (4, .iload_n 1), (5, .iload_n 2), (6, .iload_n 3), (7, .invokevirtual 29), (10, .i2l), (11, .lastore), (12, .goto 15), (15, .astore 5), (17, .iconst 1), (18, .ireturn), (19, .astore 5), (21, .iconst 2), (22, .ireturn), (23, .astore 5), (25, .iconst 3), (26, .ireturn), (27, .iconst 0), (28, .ireturn)]
theorem D_Lw_section : gdec method_7_code T_Lw_section = true := by decide +kernel
def T_Gs_section : List (Nat × Instr) := [(0, .iload_n 1), (1, .iconst 4), (2, .invokestatic 37), (5, .iload_n 2), (6, .iconst 1), (7, .sipush 500), (10, .invokestatic 41), (13, .iload_n 3), (14, .iconst 0), (15, .sipush 999), (18, .invokestatic 41), (21, .aload_n 0), (22, .getfield 10), (25, .getfield 85), (28, .getfield 89), (31, .bipush 10), (33, .if_icmp .lt 13), (36, .new 52), (39, .dup), (40, .ldc 95), (42, .invokespecial 56), (45, .athrow), (46, .aload_n 0), (47, .getfield 22), (50, .aload_n 0), (51, .getfield 10), (54, .invokevirtual 59), (57, .aload_n 0), (58, .getfield 10), (61, .iload_n 1), (62, .iload_n 2), (63, .iload_n 3), (64, .invokevirtual 97), (67, .ireturn)]
theorem D_Gs_section : gdec prog_1_method_6_code T_Gs_section = true := by decide +kernel
def T_Do_addSection : List (Nat × Instr) := [(0, .aload_n 0), (1, .getfield 21), (4, .iload_n 1), (5, .iload_n 2), (6, .iload_n 3), (7, .invokevirtual 95), (10, .istore 4), (12, .aload_n 0), (13, .getfield 21), (16, .aload_n 0), (17, .getfield 25), (20, .iconst 2), (21, .iaload), (22, .invokevirtual 99), (25, .iload 4), (27, .ireturn)]
theorem D_Do_addSection : gdec prog_2_method_6_code T_Do_addSection = true := by decide +kernel
def T_Se_add : List (Nat × Instr) := [(0, .aload_n 0), (1, .getfield 19), (4, .bipush 10), (6, .if_icmp .lt 5), (9, .iconst (-1)), (10, .ireturn), (11, .aload_n 0), (12, .getfield 19), (15, .istore 4), (17, .aload_n 0), (18, .dup), (19, .getfield 19), (22, .iconst 1), (23, .iadd), (24, .putfield 19), (27, .aload_n 0), (28, .iload 4), (30, .iconst 0), (31, .aload_n 0), (32, .getfield 23), (35, .invokevirtual 30), (38, .aload_n 0), (39, .iload 4), (41, .iconst 1), (42, .iload_n 1), (43, .invokevirtual 30), (46, .aload_n 0), (47, .iload 4), (49, .iconst 2), (50, .iload_n 2), (51, .invokevirtual 30), (54, .aload_n 0), (55, .iload 4), (57, .iconst 3), (58, .iload_n 3), (59, .invokevirtual 30), (62, .aload_n 0), (63, .iload 4), (65, .iconst 4), (66, .iconst 0), (67, .invokevirtual 30), (70, .aload_n 0), (71, .dup), (72, .getfield 23), (75, .iconst 1), (76, .iadd), (77, .putfield 23), (80, .aload_n 0), (81, .getfield 23), (84, .iconst 1), (85, .isub), (86, .ireturn)]
theorem D_Se_add : gdec prog_5_method_7_code T_Se_add = true := by decide +kernel
def T_Lw_drop : List (Nat × Instr) := [(0, .aload_n 2), (1, .iconst 0), (2, .aload_n 0), (3, .iload_n 1), (4, .invokevirtual 33), (7, .i2l), (8, .lastore), (9, .goto 6), (12, .astore_n 3), (13, .iconst 1), (14, .ireturn), (15, .iconst 0), (16, .ireturn)]
theorem D_Lw_drop : gdec method_8_code T_Lw_drop = true := by decide +kernel
def T_Gs_drop : List (Nat × Instr) := [(0, .aload_n 0), (1, .iload_n 1), (2, .invokevirtual 101), (5, .istore_n 2), (6, .aload_n 0), (7, .getfield 22), (10, .aload_n 0), (11, .getfield 10), (14, .invokevirtual 59), (17, .aload_n 0), (18, .getfield 10), (21, .iload_n 2), (22, .invokevirtual 104), (25, .ireturn)]
theorem D_Gs_drop : gdec prog_1_method_7_code T_Gs_drop = true := by decide +kernel
def T_Gs_requireSection : List (Nat × Instr) := [(0, .aload_n 0), (1, .getfield 10), (4, .getfield 85), (7, .iload_n 1), (8, .invokevirtual 305), (11, .istore_n 2), (12, .iload_n 2), (13, .iconst (-1)), (14, .if_icmp .ne 14), (17, .new 308), (20, .dup), (21, .ldc_w 310), (24, .invokespecial 312), (27, .athrow), (28, .iload_n 2), (29, .ireturn)]
theorem D_Gs_requireSection : gdec prog_1_method_34_code T_Gs_requireSection = true := by decide +kernel
def T_Do_dropSection : List (Nat × Instr) := [(0, .aload_n 0), (1, .getfield 21), (4, .iload_n 1), (5, .iconst 1), (6, .invokevirtual 103), (9, .istore_n 2), (10, .aload_n 0), (11, .getfield 21), (14, .iload_n 1), (15, .iconst 4), (16, .invokevirtual 103), (19, .istore_n 3), (20, .aload_n 0), (21, .getfield 35), (24, .iload_n 2), (25, .iload_n 3), (26, .ineg), (27, .invokestatic 84), (30, .aload_n 0), (31, .getfield 38), (34, .iload_n 2), (35, .iload_n 3), (36, .invokestatic 84), (39, .aload_n 0), (40, .getfield 21), (43, .iload_n 1), (44, .invokevirtual 106), (47, .iload_n 3), (48, .ireturn)]
theorem D_Do_dropSection : gdec prog_2_method_7_code T_Do_dropSection = true := by decide +kernel
def T_Lw_set : List (Nat × Instr) := [(0, .aload_n 3), (1, .iconst 0), (2, .aload_n 0), (3, .iload_n 1), (4, .iload_n 2), (5, .invokevirtual 36), (8, .i2l), (9, .lastore), (10, .goto 11), (13, .astore 4), (15, .iconst 1), (16, .ireturn), (17, .astore 4), (19, .iconst 2), (20, .ireturn), (21, .iconst 0), (22, .ireturn)]
theorem D_Lw_set : gdec method_9_code T_Lw_set = true := by decide +kernel
def T_Gs_set : List (Nat × Instr) := [(0, .iload_n 1), (1, .bipush 6), (3, .invokestatic 37), (6, .iload_n 2), (7, .getstatic 107), (10, .iload_n 1), (11, .invokestatic 48), (14, .getstatic 110), (17, .iload_n 1), (18, .invokestatic 48), (21, .invokestatic 41), (24, .iload_n 1), (25, .iconst 5), (26, .if_icmp .ne 18), (29, .iload_n 2), (30, .iconst 1), (31, .if_icmp .ne 13), (34, .new 73), (37, .dup), (38, .ldc 113), (40, .invokespecial 77), (43, .athrow), (44, .aload_n 0), (45, .getfield 22), (48, .aload_n 0), (49, .getfield 10), (52, .invokevirtual 59), (55, .aload_n 0), (56, .getfield 10), (59, .iload_n 1), (60, .iload_n 2), (61, .invokevirtual 115), (64, .ireturn)]
theorem D_Gs_set : gdec prog_1_method_8_code T_Gs_set = true := by decide +kernel
def T_Lw_pass : List (Nat × Instr) := [(0, .aload_n 2), (1, .iconst 0), (2, .aload_n 0), (3, .iload_n 1), (4, .invokevirtual 39), (7, .i2l), (8, .lastore), (9, .goto 9), (12, .astore_n 3), (13, .iconst 1), (14, .ireturn), (15, .astore_n 3), (16, .iconst 2), (17, .ireturn), (18, .iconst 0), (19, .ireturn)]
theorem D_Lw_pass : gdec method_10_code T_Lw_pass = true := by decide +kernel
def T_Gs_pass : List (Nat × Instr) := [(0, .iload_n 1), (1, .iconst 1), (2, .bipush 60), (4, .invokestatic 41), (7, .aload_n 0), (8, .getfield 10), (11, .getfield 118), (14, .iload_n 1), (15, .iadd), (16, .sipush 9999), (19, .if_icmp .le 13), (22, .new 52), (25, .dup), (26, .ldc 121), (28, .invokespecial 56), (31, .athrow), (32, .aload_n 0), (33, .getfield 22), (36, .aload_n 0), (37, .getfield 10), (40, .invokevirtual 59), (43, .aload_n 0), (44, .getfield 10), (47, .getfield 123), (50, .invokestatic 126), (53, .istore_n 2), (54, .iconst 0), (55, .istore_n 3), (56, .iload_n 3), (57, .iload_n 1), (58, .if_icmp .ge 16), (61, .aload_n 0), (62, .getfield 10), (65, .invokevirtual 130), (68, .iinc 3 1), (71, .goto (-15)), (74, .aload_n 0), (75, .getfield 10), (78, .getfield 123), (81, .invokestatic 126), (84, .iload_n 2), (85, .isub), (86, .ireturn)]
theorem D_Gs_pass : gdec prog_1_method_9_code T_Gs_pass = true := by decide +kernel
def T_Lw_append : List (Nat × Instr) := [(0, .aload_n 2), (1, .iconst 0), (2, .aload_n 0), (3, .iload_n 1), (4, .invokevirtual 42), (7, .i2l), (8, .lastore), (9, .goto 9), (12, .astore_n 3), (13, .iconst 1), (14, .ireturn), (15, .astore_n 3), (16, .iconst 2), (17, .ireturn), (18, .iconst 0), (19, .ireturn)]
theorem D_Lw_append : gdec method_11_code T_Lw_append = true := by decide +kernel
def T_Gs_append : List (Nat × Instr) := [(0, .iload_n 1), (1, .bipush 33), (3, .bipush 126), (5, .invokestatic 41), (8, .aload_n 0), (9, .getfield 29), (12, .getfield 133), (15, .bipush 60), (17, .if_icmp .lt 13), (20, .new 52), (23, .dup), (24, .ldc 136), (26, .invokespecial 56), (29, .athrow), (30, .aload_n 0), (31, .getfield 29), (34, .iload_n 1), (35, .invokevirtual 138), (38, .aload_n 0), (39, .getfield 29), (42, .getfield 133), (45, .ireturn)]
theorem D_Gs_append : gdec prog_1_method_10_code T_Gs_append = true := by decide +kernel
def T_Tx_add : List (Nat × Instr) := [(0, .aload_n 0), (1, .getfield 24), (4, .bipush 60), (6, .if_icmp .ge 23), (9, .aload_n 0), (10, .getfield 11), (13, .aload_n 0), (14, .getfield 24), (17, .iload_n 1), (18, .iastore), (19, .aload_n 0), (20, .dup), (21, .getfield 24), (24, .iconst 1), (25, .iadd), (26, .putfield 24), (29, .return_)]
theorem D_Tx_add : gdec prog_4_method_3_code T_Tx_add = true := by decide +kernel
def T_Lw_addAll : List (Nat × Instr) := [(0, .aload_n 1), (1, .iconst 0), (2, .aload_n 0), (3, .invokevirtual 45), (6, .i2l), (7, .lastore), (8, .goto 9), (11, .astore_n 2), (12, .iconst 1), (13, .ireturn), (14, .astore_n 2), (15, .iconst 2), (16, .ireturn), (17, .iconst 0), (18, .ireturn)]
theorem D_Lw_addAll : gdec method_12_code T_Lw_addAll = true := by decide +kernel
def T_Gs_addAll : List (Nat × Instr) := [(0, .aload_n 0), (1, .getfield 29), (4, .invokevirtual 149), (7, .ifCond .ne 13), (10, .new 73), (13, .dup), (14, .ldc 153), (16, .invokespecial 77), (19, .athrow), (20, .aload_n 0), (21, .getfield 10), (24, .getfield 85), (27, .getfield 89), (30, .aload_n 0), (31, .getfield 29), (34, .getfield 155), (37, .iadd), (38, .bipush 10), (40, .if_icmp .le 13), (43, .new 52), (46, .dup), (47, .ldc 158), (49, .invokespecial 56), (52, .athrow), (53, .aload_n 0), (54, .getfield 22), (57, .aload_n 0), (58, .getfield 10), (61, .invokevirtual 59), (64, .iconst 0), (65, .istore_n 1), (66, .iload_n 1), (67, .aload_n 0), (68, .getfield 29), (71, .getfield 155), (74, .if_icmp .ge 50), (77, .aload_n 0), (78, .getfield 10), (81, .aload_n 0), (82, .getfield 29), (85, .getfield 160), (88, .iload_n 1), (89, .invokestatic 48), (92, .aload_n 0), (93, .getfield 29), (96, .getfield 163), (99, .iload_n 1), (100, .invokestatic 48), (103, .aload_n 0), (104, .getfield 29), (107, .getfield 166), (110, .iload_n 1), (111, .invokestatic 48), (114, .invokevirtual 97), (117, .pop), (118, .iinc 1 1), (121, .goto (-55)), (124, .aload_n 0), (125, .getfield 29), (128, .invokevirtual 142), (131, .aload_n 0), (132, .getfield 10), (135, .getfield 85), (138, .getfield 89), (141, .ireturn)]
theorem D_Gs_addAll : gdec prog_1_method_13_code T_Gs_addAll = true := by decide +kernel
def T_Tx_readSections : List (Nat × Instr) := [(0, .aload_n 0), (1, .invokevirtual 38), (4, .aload_n 0), (5, .getfield 24), (8, .if_icmp .lt 11), (11, .aload_n 0), (12, .getfield 31), (15, .iconst 4), (16, .if_icmp .eq 5), (19, .iconst 0), (20, .ireturn), (21, .aload_n 0), (22, .invokevirtual 42), (25, .iconst 1), (26, .ireturn)]
theorem D_Tx_readSections : gdec prog_4_method_5_code T_Tx_readSections = true := by decide +kernel
def T_Lw_undo : List (Nat × Instr) := [(0, .aload_n 1), (1, .iconst 0), (2, .aload_n 0), (3, .invokevirtual 49), (6, .i2l), (7, .lastore), (8, .goto 6), (11, .astore_n 2), (12, .iconst 1), (13, .ireturn), (14, .iconst 0), (15, .ireturn)]
theorem D_Lw_undo : gdec method_13_code T_Lw_undo = true := by decide +kernel
def T_Gs_undo : List (Nat × Instr) := [(0, .aload_n 0), (1, .getfield 22), (4, .getfield 169), (7, .iconst 1), (8, .if_icmp .ge 13), (11, .new 52), (14, .dup), (15, .ldc 170), (17, .invokespecial 56), (20, .athrow), (21, .aload_n 0), (22, .getfield 22), (25, .aload_n 0), (26, .getfield 10), (29, .invokevirtual 172), (32, .aload_n 0), (33, .getfield 22), (36, .getfield 169), (39, .ireturn)]
theorem D_Gs_undo : gdec prog_1_method_14_code T_Gs_undo = true := by decide +kernel
def T_Hi_restoreTo : List (Nat × Instr) := [(0, .aload_n 0), (1, .aload_n 0), (2, .getfield 18), (5, .iconst 1), (6, .isub), (7, .invokevirtual 25), (10, .astore_n 2), (11, .aload_n 2), (12, .ifnull 18), (15, .aload_n 1), (16, .aload_n 2), (17, .invokevirtual 29), (20, .aload_n 0), (21, .dup), (22, .getfield 18), (25, .iconst 1), (26, .isub), (27, .putfield 18), (30, .return_)]
theorem D_Hi_restoreTo : gdec prog_3_method_3_code T_Hi_restoreTo = true := by decide +kernel
def T_Lw_tray : List (Nat × Instr) := [(0, .aload_n 3), (1, .iconst 0), (2, .aload_n 0), (3, .iload_n 1), (4, .iload_n 2), (5, .invokevirtual 52), (8, .i2l), (9, .lastore), (10, .goto 7), (13, .astore 4), (15, .iconst 1), (16, .ireturn), (17, .iconst 0), (18, .ireturn)]
theorem D_Lw_tray : gdec method_14_code T_Lw_tray = true := by decide +kernel
def T_Lw_sectionOf : List (Nat × Instr) := [(0, .aload_n 3), (1, .iconst 0), (2, .aload_n 0), (3, .iload_n 1), (4, .iload_n 2), (5, .invokevirtual 55), (8, .i2l), (9, .lastore), (10, .goto 7), (13, .astore 4), (15, .iconst 1), (16, .ireturn), (17, .iconst 0), (18, .ireturn)]
theorem D_Lw_sectionOf : gdec method_15_code T_Lw_sectionOf = true := by decide +kernel
def T_Lw_tone : List (Nat × Instr) := [(0, .aload_n 3), (1, .iconst 0), (2, .aload_n 0), (3, .iload_n 1), (4, .iload_n 2), (5, .invokevirtual 58), (8, .i2l), (9, .lastore), (10, .goto 11), (13, .astore 4), (15, .iconst 1), (16, .ireturn), (17, .astore 4), (19, .iconst 2), (20, .ireturn), (21, .iconst 0), (22, .ireturn)]
theorem D_Lw_tone : gdec method_16_code T_Lw_tone = true := by decide +kernel
def T_Lw_count : List (Nat × Instr) := [(0, .aload_n 2), (1, .iconst 0), (2, .aload_n 0), (3, .iload_n 1), (4, .invokevirtual 61), (7, .i2l), (8, .lastore), (9, .goto 6), (12, .astore_n 3), (13, .iconst 1), (14, .ireturn), (15, .iconst 0), (16, .ireturn)]
theorem D_Lw_count : gdec method_17_code T_Lw_count = true := by decide +kernel
def T_Lw_setting : List (Nat × Instr) := [(0, .aload_n 2), (1, .iconst 0), (2, .aload_n 0), (3, .iload_n 1), (4, .invokevirtual 64), (7, .i2l), (8, .lastore), (9, .goto 6), (12, .astore_n 3), (13, .iconst 1), (14, .ireturn), (15, .iconst 0), (16, .ireturn)]
theorem D_Lw_setting : gdec method_18_code T_Lw_setting = true := by decide +kernel
def T_Lw_taken : List (Nat × Instr) := [(0, .aload_n 2), (1, .iconst 0), (2, .aload_n 0), (3, .iload_n 1), (4, .invokevirtual 67), (7, .i2l), (8, .lastore), (9, .goto 6), (12, .astore_n 3), (13, .iconst 1), (14, .ireturn), (15, .iconst 0), (16, .ireturn)]
theorem D_Lw_taken : gdec method_19_code T_Lw_taken = true := by decide +kernel
def T_Lw_missing : List (Nat × Instr) := [(0, .aload_n 2), (1, .iconst 0), (2, .aload_n 0), (3, .iload_n 1), (4, .invokevirtual 70), (7, .i2l), (8, .lastore), (9, .goto 6), (12, .astore_n 3), (13, .iconst 1), (14, .ireturn), (15, .iconst 0), (16, .ireturn)]
theorem D_Lw_missing : gdec method_20_code T_Lw_missing = true := by decide +kernel
def T_Lw_ifPassed : List (Nat × Instr) := [(0, .aload_n 3), (1, .iconst 0), (2, .aload_n 0), (3, .iload_n 1), (4, .iload_n 2), (5, .invokevirtual 73), (8, .i2l), (9, .lastore), (10, .goto 7), (13, .astore 4), (15, .iconst 1), (16, .ireturn), (17, .iconst 0), (18, .ireturn)]
theorem D_Lw_ifPassed : gdec method_21_code T_Lw_ifPassed = true := by decide +kernel
def T_Lw_doneIn : List (Nat × Instr) := [(0, .aload_n 2), (1, .iconst 0), (2, .aload_n 0), (3, .iload_n 1), (4, .invokevirtual 76), (7, .i2l), (8, .lastore), (9, .goto 6), (12, .astore_n 3), (13, .iconst 1), (14, .ireturn), (15, .iconst 0), (16, .ireturn)]
theorem D_Lw_doneIn : gdec method_22_code T_Lw_doneIn = true := by decide +kernel
def T_Gs_doneIn : List (Nat × Instr) := [(0, .aload_n 0), (1, .iload_n 1), (2, .invokevirtual 101), (5, .istore_n 2), (6, .aload_n 0), (7, .invokevirtual 241), (10, .aload_n 0), (11, .getfield 33), (14, .iload_n 2), (15, .invokestatic 48), (18, .ireturn)]
theorem D_Gs_doneIn : gdec prog_1_method_23_code T_Gs_doneIn = true := by decide +kernel
def T_Lw_bestOrder : List (Nat × Instr) := [(0, .aload_n 2), (1, .iconst 0), (2, .aload_n 0), (3, .iload_n 1), (4, .invokevirtual 79), (7, .i2l), (8, .lastore), (9, .goto 6), (12, .astore_n 3), (13, .iconst 1), (14, .ireturn), (15, .iconst 0), (16, .ireturn)]
theorem D_Lw_bestOrder : gdec method_23_code T_Lw_bestOrder = true := by decide +kernel
def T_Mo_init : List (Nat × Instr) := [(0, .aload_n 0), (1, .invokespecial 1), (4, .aload_n 0), (5, .bipush 103), (7, .newarray .int), (9, .putfield 7), (12, .aload_n 0), (13, .sipush 618), (16, .newarray .int), (18, .putfield 13), (21, .aload_n 0), (22, .bipush 103), (24, .newarray .int), (26, .putfield 16), (29, .aload_n 0), (30, .bipush 60), (32, .newarray .int), (34, .putfield 19), (37, .aload_n 0), (38, .bipush 10), (40, .newarray .int), (42, .putfield 22), (45, .aload_n 0), (46, .bipush 39), (48, .newarray .int), (50, .putfield 25), (53, .iconst 0), (54, .istore_n 1), (55, .iload_n 1), (56, .iconst 4), (57, .if_icmp .ge 18), (60, .aload_n 0), (61, .getfield 7), (64, .iconst 0), (65, .iload_n 1), (66, .iadd), (67, .iconst 5), (68, .iastore), (69, .iinc 1 1), (72, .goto (-17)), (75, .aload_n 0), (76, .getfield 7), (79, .bipush 28), (81, .bipush 50), (83, .iastore), (84, .aload_n 0), (85, .getfield 7), (88, .bipush 29), (90, .bipush 120), (92, .iastore), (93, .aload_n 0), (94, .getfield 7), (97, .bipush 31), (99, .iconst 2), (100, .iastore), (101, .aload_n 0), (102, .getfield 7), (105, .bipush 32), (107, .bipush 30), (109, .iastore), (110, .aload_n 0), (111, .getfield 7), (114, .bipush 33), (116, .bipush 10), (118, .iastore), (119, .return_)]
theorem D_Mo_init : gdec prog_8_method_1_code T_Mo_init = true := by decide +kernel
def T_Mo_thrown : List (Nat × Instr) := [(0, .aload_n 0), (1, .getfield 28), (4, .ireturn)]
theorem D_Mo_thrown : gdec prog_8_method_2_code T_Mo_thrown = true := by decide +kernel
def T_Mo_undo : List (Nat × Instr) := [(0, .aload_n 0), (1, .aload_n 0), (2, .getfield 36), (5, .ifCond .ne 7), (8, .iconst 1), (9, .goto 4), (12, .iconst 0), (13, .putfield 28), (16, .aload_n 0), (17, .getfield 28), (20, .ifCond .le 5), (23, .iconst 0), (24, .ireturn), (25, .aload_n 0), (26, .dup), (27, .getfield 36), (30, .iconst 1), (31, .isub), (32, .putfield 36), (35, .iconst 0), (36, .istore_n 1), (37, .iload_n 1), (38, .bipush 103), (40, .if_icmp .ge 29), (43, .aload_n 0), (44, .getfield 7), (47, .iload_n 1), (48, .aload_n 0), (49, .getfield 13), (52, .aload_n 0), (53, .getfield 36), (56, .bipush 103), (58, .imul), (59, .iload_n 1), (60, .iadd), (61, .iaload), (62, .iastore), (63, .iinc 1 1), (66, .goto (-29)), (69, .aload_n 0), (70, .getfield 36), (73, .ireturn)]
theorem D_Mo_undo : gdec prog_8_method_10_code T_Mo_undo = true := by decide +kernel
def T_Mo_store : List (Nat × Instr) := [(0, .aload_n 0), (1, .iload_n 1), (2, .invokestatic 58), (5, .ifCond .ne 7), (8, .iconst 1), (9, .goto 38), (12, .iload_n 2), (13, .iconst 1), (14, .bipush 99), (16, .invokestatic 32), (19, .ifCond .ne 7), (22, .iconst 2), (23, .goto 24), (26, .aload_n 0), (27, .getfield 7), (30, .iconst 0), (31, .iload_n 1), (32, .iadd), (33, .iaload), (34, .iload_n 2), (35, .iadd), (36, .sipush 999), (39, .if_icmp .le 7), (42, .iconst 3), (43, .goto 4), (46, .iconst 0), (47, .putfield 28), (50, .aload_n 0), (51, .getfield 28), (54, .ifCond .le 5), (57, .iconst 0), (58, .ireturn), (59, .aload_n 0), (60, .invokevirtual 62), (63, .aload_n 0), (64, .getfield 7), (67, .iconst 0), (68, .iload_n 1), (69, .iadd), (70, .dup2), (71, .iaload), (72, .iload_n 2), (73, .iadd), (74, .iastore), (75, .aload_n 0), (76, .getfield 7), (79, .iconst 0), (80, .iload_n 1), (81, .iadd), (82, .iaload), (83, .ireturn)]
theorem D_Mo_store : gdec prog_8_method_19_code T_Mo_store = true := by decide +kernel
def T_Mo_isTone : List (Nat × Instr) := [(0, .iload_n 0), (1, .iconst 0), (2, .iconst 3), (3, .invokestatic 32), (6, .ireturn)]
theorem D_Mo_isTone : gdec prog_8_method_4_code T_Mo_isTone = true := by decide +kernel
def T_Mo_in : List (Nat × Instr) := [(0, .iload_n 0), (1, .iload_n 1), (2, .if_icmp .lt 12), (5, .iload_n 0), (6, .iload_n 2), (7, .if_icmp .gt 7), (10, .iconst 1), (11, .goto 4), (14, .iconst 0), (15, .ireturn)]
theorem D_Mo_in : gdec prog_8_method_3_code T_Mo_in = true := by decide +kernel
def T_Mo_save : List (Nat × Instr) := [(0, .aload_n 0), (1, .getfield 36), (4, .bipush 6), (6, .if_icmp .ne 43), (9, .iconst 0), (10, .istore_n 1), (11, .iload_n 1), (12, .sipush 515), (15, .if_icmp .ge 24), (18, .aload_n 0), (19, .getfield 13), (22, .iload_n 1), (23, .aload_n 0), (24, .getfield 13), (27, .iload_n 1), (28, .bipush 103), (30, .iadd), (31, .iaload), (32, .iastore), (33, .iinc 1 1), (36, .goto (-25)), (39, .aload_n 0), (40, .dup), (41, .getfield 36), (44, .iconst 1), (45, .isub), (46, .putfield 36), (49, .iconst 0), (50, .istore_n 1), (51, .iload_n 1), (52, .bipush 103), (54, .if_icmp .ge 29), (57, .aload_n 0), (58, .getfield 13), (61, .aload_n 0), (62, .getfield 36), (65, .bipush 103), (67, .imul), (68, .iload_n 1), (69, .iadd), (70, .aload_n 0), (71, .getfield 7), (74, .iload_n 1), (75, .iaload), (76, .iastore), (77, .iinc 1 1), (80, .goto (-29)), (83, .aload_n 0), (84, .dup), (85, .getfield 36), (88, .iconst 1), (89, .iadd), (90, .putfield 36), (93, .return_)]
theorem D_Mo_save : gdec prog_8_method_9_code T_Mo_save = true := by decide +kernel
def T_Mo_cut : List (Nat × Instr) := [(0, .aload_n 0), (1, .iload_n 1), (2, .invokestatic 58), (5, .ifCond .eq 10), (8, .iload_n 2), (9, .invokestatic 65), (12, .ifCond .ne 7), (15, .iconst 1), (16, .goto 19), (19, .aload_n 0), (20, .getfield 7), (23, .iconst 0), (24, .iload_n 1), (25, .iadd), (26, .iaload), (27, .ifCond .ne 7), (30, .iconst 2), (31, .goto 4), (34, .iconst 0), (35, .putfield 28), (38, .aload_n 0), (39, .getfield 28), (42, .ifCond .le 5), (45, .iconst 0), (46, .ireturn), (47, .aload_n 0), (48, .invokevirtual 62), (51, .aload_n 0), (52, .getfield 7), (55, .bipush 28), (57, .iaload), (58, .istore_n 3), (59, .iload_n 3), (60, .aload_n 0), (61, .iload_n 2), (62, .invokevirtual 47), (65, .if_icmp .ge 7), (68, .iload_n 3), (69, .goto 8), (72, .aload_n 0), (73, .iload_n 2), (74, .invokevirtual 47), (77, .istore 4), (79, .aload_n 0), (80, .getfield 7), (83, .iconst 0), (84, .iload_n 1), (85, .iadd), (86, .dup2), (87, .iaload), (88, .iconst 1), (89, .isub), (90, .iastore), (91, .aload_n 0), (92, .getfield 7), (95, .iconst 4), (96, .iconst 4), (97, .iload_n 2), (98, .imul), (99, .iadd), (100, .iload_n 1), (101, .iadd), (102, .dup2), (103, .iaload), (104, .iload 4), (106, .iadd), (107, .iastore), (108, .aload_n 0), (109, .getfield 7), (112, .bipush 39), (114, .iload_n 1), (115, .iadd), (116, .dup2), (117, .iaload), (118, .iload_n 3), (119, .iadd), (120, .iastore), (121, .aload_n 0), (122, .getfield 7), (125, .bipush 43), (127, .iload_n 1), (128, .iadd), (129, .dup2), (130, .iaload), (131, .iload_n 3), (132, .iload 4), (134, .isub), (135, .iadd), (136, .iastore), (137, .iload 4), (139, .ireturn)]
theorem D_Mo_cut : gdec prog_8_method_20_code T_Mo_cut = true := by decide +kernel
def T_Mo_isTray : List (Nat × Instr) := [(0, .iload_n 0), (1, .iconst 0), (2, .iconst 5), (3, .invokestatic 32), (6, .ireturn)]
theorem D_Mo_isTray : gdec prog_8_method_5_code T_Mo_isTray = true := by decide +kernel
def T_Mo_room : List (Nat × Instr) := [(0, .aload_n 0), (1, .getfield 7), (4, .bipush 29), (6, .iaload), (7, .aload_n 0), (8, .iload_n 1), (9, .invokevirtual 43), (12, .isub), (13, .istore_n 2), (14, .iload_n 2), (15, .ifCond .ge 7), (18, .iconst 0), (19, .goto 4), (22, .iload_n 2), (23, .ireturn)]
theorem D_Mo_room : gdec prog_8_method_15_code T_Mo_room = true := by decide +kernel
def T_Mo_inTray : List (Nat × Instr) := [(0, .iconst 0), (1, .istore_n 2), (2, .iconst 0), (3, .istore_n 3), (4, .iload_n 3), (5, .iconst 4), (6, .if_icmp .ge 18), (9, .iload_n 2), (10, .aload_n 0), (11, .iload_n 1), (12, .iload_n 3), (13, .invokevirtual 39), (16, .iadd), (17, .istore_n 2), (18, .iinc 3 1), (21, .goto (-17)), (24, .iload_n 2), (25, .ireturn)]
theorem D_Mo_inTray : gdec prog_8_method_13_code T_Mo_inTray = true := by decide +kernel
def T_Mo_cubes : List (Nat × Instr) := [(0, .aload_n 0), (1, .getfield 7), (4, .iconst 4), (5, .iconst 4), (6, .iload_n 1), (7, .imul), (8, .iadd), (9, .iload_n 2), (10, .iadd), (11, .iaload), (12, .ireturn)]
theorem D_Mo_cubes : gdec prog_8_method_6_code T_Mo_cubes = true := by decide +kernel
def T_Mo_tip : List (Nat × Instr) := [(0, .aload_n 0), (1, .iload_n 1), (2, .invokestatic 65), (5, .ifCond .eq 10), (8, .iload_n 2), (9, .invokestatic 65), (12, .ifCond .ne 7), (15, .iconst 1), (16, .goto 13), (19, .iload_n 1), (20, .iload_n 2), (21, .if_icmp .ne 7), (24, .iconst 2), (25, .goto 4), (28, .iconst 0), (29, .putfield 28), (32, .aload_n 0), (33, .getfield 28), (36, .ifCond .le 5), (39, .iconst 0), (40, .ireturn), (41, .aload_n 0), (42, .invokevirtual 62), (45, .iconst 0), (46, .istore_n 3), (47, .iconst 0), (48, .istore 4), (50, .iload 4), (52, .iconst 4), (53, .if_icmp .ge 20), (56, .iload_n 3), (57, .aload_n 0), (58, .iload_n 1), (59, .iload_n 2), (60, .iload 4), (62, .invokevirtual 54), (65, .iadd), (66, .istore_n 3), (67, .iinc 4 1), (70, .goto (-20)), (73, .iload_n 3), (74, .ireturn)]
theorem D_Mo_tip : gdec prog_8_method_21_code T_Mo_tip = true := by decide +kernel
def T_Mo_pour : List (Nat × Instr) := [(0, .aload_n 0), (1, .iload_n 1), (2, .iload_n 3), (3, .invokevirtual 39), (6, .aload_n 0), (7, .iload_n 2), (8, .invokevirtual 47), (11, .if_icmp .ge 12), (14, .aload_n 0), (15, .iload_n 1), (16, .iload_n 3), (17, .invokevirtual 39), (20, .goto 8), (23, .aload_n 0), (24, .iload_n 2), (25, .invokevirtual 47), (28, .istore 4), (30, .aload_n 0), (31, .getfield 7), (34, .iconst 4), (35, .iconst 4), (36, .iload_n 1), (37, .imul), (38, .iadd), (39, .iload_n 3), (40, .iadd), (41, .dup2), (42, .iaload), (43, .iload 4), (45, .isub), (46, .iastore), (47, .aload_n 0), (48, .getfield 7), (51, .iconst 4), (52, .iconst 4), (53, .iload_n 2), (54, .imul), (55, .iadd), (56, .iload_n 3), (57, .iadd), (58, .dup2), (59, .iaload), (60, .iload 4), (62, .iadd), (63, .iastore), (64, .iload 4), (66, .ireturn)]
theorem D_Mo_pour : gdec prog_8_method_16_code T_Mo_pour = true := by decide +kernel
def T_Mo_sweep : List (Nat × Instr) := [(0, .aload_n 0), (1, .iload_n 1), (2, .invokestatic 65), (5, .ifCond .eq 7), (8, .iconst 0), (9, .goto 4), (12, .iconst 1), (13, .putfield 28), (16, .aload_n 0), (17, .getfield 28), (20, .ifCond .le 5), (23, .iconst 0), (24, .ireturn), (25, .aload_n 0), (26, .invokevirtual 62), (29, .aload_n 0), (30, .iload_n 1), (31, .invokevirtual 43), (34, .istore_n 2), (35, .iconst 0), (36, .istore_n 3), (37, .iload_n 3), (38, .iconst 4), (39, .if_icmp .ge 40), (42, .aload_n 0), (43, .getfield 7), (46, .bipush 43), (48, .iload_n 3), (49, .iadd), (50, .dup2), (51, .iaload), (52, .aload_n 0), (53, .iload_n 1), (54, .iload_n 3), (55, .invokevirtual 39), (58, .iadd), (59, .iastore), (60, .aload_n 0), (61, .getfield 7), (64, .iconst 4), (65, .iconst 4), (66, .iload_n 1), (67, .imul), (68, .iadd), (69, .iload_n 3), (70, .iadd), (71, .iconst 0), (72, .iastore), (73, .iinc 3 1), (76, .goto (-39)), (79, .iload_n 2), (80, .ireturn)]
theorem D_Mo_sweep : gdec prog_8_method_22_code T_Mo_sweep = true := by decide +kernel
def T_Mo_section : List (Nat × Instr) := [(0, .aload_n 0), (1, .iload_n 1), (2, .invokestatic 58), (5, .ifCond .ne 7), (8, .iconst 1), (9, .goto 46), (12, .iload_n 2), (13, .iconst 1), (14, .sipush 500), (17, .invokestatic 32), (20, .ifCond .eq 14), (23, .iload_n 3), (24, .iconst 0), (25, .sipush 999), (28, .invokestatic 32), (31, .ifCond .ne 7), (34, .iconst 2), (35, .goto 20), (38, .aload_n 0), (39, .getfield 7), (42, .bipush 52), (44, .iaload), (45, .bipush 10), (47, .if_icmp .ne 7), (50, .iconst 3), (51, .goto 4), (54, .iconst 0), (55, .putfield 28), (58, .aload_n 0), (59, .getfield 28), (62, .ifCond .le 5), (65, .iconst 0), (66, .ireturn), (67, .aload_n 0), (68, .invokevirtual 62), (71, .aload_n 0), (72, .iload_n 1), (73, .iload_n 2), (74, .iload_n 3), (75, .invokevirtual 72), (78, .ireturn)]
theorem D_Mo_section : gdec prog_8_method_24_code T_Mo_section = true := by decide +kernel
def T_Mo_sectionAdded : List (Nat × Instr) := [(0, .aload_n 0), (1, .getfield 7), (4, .bipush 52), (6, .iaload), (7, .istore 4), (9, .aload_n 0), (10, .iload 4), (12, .iconst 0), (13, .aload_n 0), (14, .getfield 7), (17, .bipush 51), (19, .iaload), (20, .invokevirtual 68), (23, .aload_n 0), (24, .iload 4), (26, .iconst 1), (27, .iload_n 1), (28, .invokevirtual 68), (31, .aload_n 0), (32, .iload 4), (34, .iconst 2), (35, .iload_n 2), (36, .invokevirtual 68), (39, .aload_n 0), (40, .iload 4), (42, .iconst 3), (43, .iload_n 3), (44, .invokevirtual 68), (47, .aload_n 0), (48, .iload 4), (50, .iconst 4), (51, .iconst 0), (52, .invokevirtual 68), (55, .aload_n 0), (56, .getfield 7), (59, .bipush 52), (61, .dup2), (62, .iaload), (63, .iconst 1), (64, .iadd), (65, .iastore), (66, .aload_n 0), (67, .getfield 7), (70, .bipush 51), (72, .dup2), (73, .iaload), (74, .iconst 1), (75, .iadd), (76, .iastore), (77, .aload_n 0), (78, .getfield 7), (81, .bipush 51), (83, .iaload), (84, .iconst 1), (85, .isub), (86, .ireturn)]
theorem D_Mo_sectionAdded : gdec prog_8_method_23_code T_Mo_sectionAdded = true := by decide +kernel
def T_Mo_lay : List (Nat × Instr) := [(0, .aload_n 0), (1, .getfield 7), (4, .bipush 53), (6, .iconst 5), (7, .iload_n 1), (8, .imul), (9, .iadd), (10, .iload_n 2), (11, .iadd), (12, .iload_n 3), (13, .iastore), (14, .return_)]
theorem D_Mo_lay : gdec prog_8_method_8_code T_Mo_lay = true := by decide +kernel
def T_Mo_drop : List (Nat × Instr) := [(0, .aload_n 0), (1, .iload_n 1), (2, .invokevirtual 78), (5, .istore_n 2), (6, .aload_n 0), (7, .iload_n 2), (8, .iconst (-1)), (9, .if_icmp .ne 7), (12, .iconst 1), (13, .goto 4), (16, .iconst 0), (17, .putfield 28), (20, .aload_n 0), (21, .getfield 28), (24, .ifCond .le 5), (27, .iconst 0), (28, .ireturn), (29, .aload_n 0), (30, .invokevirtual 62), (33, .aload_n 0), (34, .iload_n 2), (35, .iconst 4), (36, .invokevirtual 75), (39, .istore_n 3), (40, .aload_n 0), (41, .getfield 7), (44, .bipush 47), (46, .aload_n 0), (47, .iload_n 2), (48, .iconst 1), (49, .invokevirtual 75), (52, .iadd), (53, .dup2), (54, .iaload), (55, .iload_n 3), (56, .isub), (57, .iastore), (58, .aload_n 0), (59, .getfield 7), (62, .bipush 43), (64, .aload_n 0), (65, .iload_n 2), (66, .iconst 1), (67, .invokevirtual 75), (70, .iadd), (71, .dup2), (72, .iaload), (73, .iload_n 3), (74, .iadd), (75, .iastore), (76, .aload_n 0), (77, .iload_n 2), (78, .invokevirtual 81), (81, .iload_n 3), (82, .ireturn)]
theorem D_Mo_drop : gdec prog_8_method_27_code T_Mo_drop = true := by decide +kernel
def T_Mo_placeOf : List (Nat × Instr) := [(0, .iconst (-1)), (1, .istore_n 2), (2, .iconst 0), (3, .istore_n 3), (4, .iload_n 3), (5, .aload_n 0), (6, .getfield 7), (9, .bipush 52), (11, .iaload), (12, .if_icmp .ge 25), (15, .aload_n 0), (16, .iload_n 3), (17, .iconst 0), (18, .invokevirtual 75), (21, .iload_n 1), (22, .if_icmp .ne 7), (25, .iload_n 3), (26, .goto 4), (29, .iload_n 2), (30, .istore_n 2), (31, .iinc 3 1), (34, .goto (-30)), (37, .iload_n 2), (38, .ireturn)]
theorem D_Mo_placeOf : gdec prog_8_method_25_code T_Mo_placeOf = true := by decide +kernel
def T_Mo_its : List (Nat × Instr) := [(0, .aload_n 0), (1, .getfield 7), (4, .bipush 53), (6, .iconst 5), (7, .iload_n 1), (8, .imul), (9, .iadd), (10, .iload_n 2), (11, .iadd), (12, .iaload), (13, .ireturn)]
theorem D_Mo_its : gdec prog_8_method_7_code T_Mo_its = true := by decide +kernel
def T_Mo_takeOut : List (Nat × Instr) := [(0, .aload_n 0), (1, .getfield 7), (4, .bipush 52), (6, .dup2), (7, .iaload), (8, .iconst 1), (9, .isub), (10, .iastore), (11, .bipush 53), (13, .iconst 5), (14, .iload_n 1), (15, .imul), (16, .iadd), (17, .istore_n 2), (18, .iload_n 2), (19, .bipush 53), (21, .iconst 5), (22, .aload_n 0), (23, .getfield 7), (26, .bipush 52), (28, .iaload), (29, .imul), (30, .iadd), (31, .if_icmp .ge 23), (34, .aload_n 0), (35, .getfield 7), (38, .iload_n 2), (39, .aload_n 0), (40, .getfield 7), (43, .iload_n 2), (44, .iconst 5), (45, .iadd), (46, .iaload), (47, .iastore), (48, .iinc 2 1), (51, .goto (-33)), (54, .return_)]
theorem D_Mo_takeOut : gdec prog_8_method_26_code T_Mo_takeOut = true := by decide +kernel
def T_Mo_set : List (Nat × Instr) := [(0, .aload_n 0), (1, .iload_n 1), (2, .iconst 0), (3, .iconst 5), (4, .invokestatic 32), (7, .ifCond .ne 7), (10, .iconst 1), (11, .goto 16), (14, .iload_n 1), (15, .iload_n 2), (16, .invokestatic 85), (19, .ifCond .eq 7), (22, .iconst 0), (23, .goto 4), (26, .iconst 2), (27, .putfield 28), (30, .aload_n 0), (31, .getfield 28), (34, .ifCond .le 5), (37, .iconst 0), (38, .ireturn), (39, .aload_n 0), (40, .invokevirtual 62), (43, .aload_n 0), (44, .getfield 7), (47, .bipush 28), (49, .iload_n 1), (50, .iadd), (51, .iaload), (52, .istore_n 3), (53, .aload_n 0), (54, .getfield 7), (57, .bipush 28), (59, .iload_n 1), (60, .iadd), (61, .iload_n 2), (62, .iastore), (63, .iload_n 3), (64, .ireturn)]
theorem D_Mo_set : gdec prog_8_method_29_code T_Mo_set = true := by decide +kernel
def T_Mo_isValue : List (Nat × Instr) := [(0, .iload_n 0), (36, .iload_n 1), (37, .iconst 1), (38, .sipush 200), (41, .invokestatic 32), (44, .ireturn), (45, .iload_n 1), (46, .bipush 10), (48, .sipush 500), (51, .invokestatic 32), (54, .ireturn), (55, .iload_n 1), (56, .iconst 0), (57, .iconst 1), (58, .invokestatic 32), (61, .ireturn), (62, .iload_n 1), (63, .iconst 0), (64, .bipush 9), (66, .invokestatic 32), (69, .ireturn), (70, .iload_n 1), (71, .iconst 1), (72, .bipush 99), (74, .invokestatic 32), (77, .ireturn), (78, .iload_n 1), (79, .ifCond .eq 13), (82, .iload_n 1), (83, .iconst 2), (84, .bipush 99), (86, .invokestatic 32), (89, .ifCond .eq 7), (92, .iconst 1), (93, .goto 4), (96, .iconst 0), (97, .ireturn)]
theorem D_Mo_isValue : gdec prog_8_method_28_code T_Mo_isValue = true := by decide +kernel
theorem S_Mo_isValue_1 : decode prog_8_method_28_code 1 = .ok (.tableswitch 77 0 4 #[35, 44, 54, 61, 69], 35) := by decide +kernel
def T_Mo_pass : List (Nat × Instr) := [(0, .aload_n 0), (1, .iload_n 1), (2, .iconst 1), (3, .bipush 60), (5, .invokestatic 32), (8, .ifCond .ne 7), (11, .iconst 1), (12, .goto 23), (15, .aload_n 0), (16, .getfield 7), (19, .bipush 34), (21, .iaload), (22, .iload_n 1), (23, .iadd), (24, .sipush 9999), (27, .if_icmp .le 7), (30, .iconst 2), (31, .goto 4), (34, .iconst 0), (35, .putfield 28), (38, .aload_n 0), (39, .getfield 28), (42, .ifCond .le 5), (45, .iconst 0), (46, .ireturn), (47, .aload_n 0), (48, .invokevirtual 62), (51, .aload_n 0), (52, .iload_n 1), (53, .invokevirtual 126), (56, .ireturn)]
theorem D_Mo_pass : gdec prog_8_method_40_code T_Mo_pass = true := by decide +kernel
def T_Mo_days : List (Nat × Instr) := [(0, .iconst 0), (1, .istore_n 2), (2, .iconst 0), (3, .istore_n 3), (4, .iload_n 3), (5, .iload_n 1), (6, .if_icmp .ge 16), (9, .iload_n 2), (10, .aload_n 0), (11, .invokevirtual 123), (14, .iadd), (15, .istore_n 2), (16, .iinc 3 1), (19, .goto (-15)), (22, .iload_n 2), (23, .ireturn)]
theorem D_Mo_days : gdec prog_8_method_39_code T_Mo_days = true := by decide +kernel
def T_Mo_work : List (Nat × Instr) := [(0, .aload_n 0), (1, .aload_n 0), (2, .getfield 7), (5, .bipush 31), (7, .iaload), (8, .putfield 105), (11, .iconst 0), (12, .istore_n 1), (13, .iload_n 1), (14, .bipush 6), (16, .if_icmp .ge 40), (19, .aload_n 0), (20, .getfield 105), (23, .ifCond .le 27), (26, .aload_n 0), (27, .iload_n 1), (28, .invokevirtual 95), (31, .iconst 1), (32, .if_icmp .le 18), (35, .aload_n 0), (36, .iload_n 1), (37, .invokevirtual 111), (40, .aload_n 0), (41, .dup), (42, .getfield 105), (45, .iconst 1), (46, .isub), (47, .putfield 105), (50, .iinc 1 1), (53, .goto (-40)), (56, .aload_n 0), (57, .invokevirtual 114), (60, .iconst 0), (61, .istore_n 1), (62, .iconst 0), (63, .istore_n 2), (64, .iload_n 2), (65, .aload_n 0), (66, .getfield 7), (69, .bipush 52), (71, .iaload), (72, .if_icmp .ge 22), (75, .iload_n 1), (76, .aload_n 0), (77, .aload_n 0), (78, .getfield 22), (81, .iload_n 2), (82, .iaload), (83, .invokevirtual 117), (86, .iadd), (87, .istore_n 1), (88, .iinc 2 1), (91, .goto (-27)), (94, .aload_n 0), (95, .invokevirtual 120), (98, .aload_n 0), (99, .getfield 7), (102, .bipush 34), (104, .dup2), (105, .iaload), (106, .iconst 1), (107, .iadd), (108, .iastore), (109, .iload_n 1), (110, .ireturn)]
theorem D_Mo_work : gdec prog_8_method_38_code T_Mo_work = true := by decide +kernel
def T_Mo_tonesIn : List (Nat × Instr) := [(0, .iconst 0), (1, .istore_n 2), (2, .iconst 0), (3, .istore_n 3), (4, .iload_n 3), (5, .iconst 4), (6, .if_icmp .ge 26), (9, .iload_n 2), (10, .aload_n 0), (11, .iload_n 1), (12, .iload_n 3), (13, .invokevirtual 39), (16, .ifCond .le 7), (19, .iconst 1), (20, .goto 4), (23, .iconst 0), (24, .iadd), (25, .istore_n 2), (26, .iinc 3 1), (29, .goto (-25)), (32, .iload_n 2), (33, .ireturn)]
theorem D_Mo_tonesIn : gdec prog_8_method_14_code T_Mo_tonesIn = true := by decide +kernel
def T_Mo_sort : List (Nat × Instr) := [(0, .iconst 0), (1, .istore_n 2), (2, .iconst 1), (3, .istore_n 3), (4, .iload_n 3), (5, .iconst 4), (6, .if_icmp .ge 30), (9, .aload_n 0), (10, .iload_n 1), (11, .iload_n 3), (12, .invokevirtual 39), (15, .aload_n 0), (16, .iload_n 1), (17, .iload_n 2), (18, .invokevirtual 39), (21, .if_icmp .le 7), (24, .iload_n 3), (25, .goto 4), (28, .iload_n 2), (29, .istore_n 2), (30, .iinc 3 1), (33, .goto (-29)), (36, .iconst 0), (37, .istore_n 3), (38, .iload_n 3), (39, .iconst 4), (40, .if_icmp .ge 44), (43, .aload_n 0), (44, .invokevirtual 50), (47, .istore 4), (49, .iload_n 3), (50, .iload_n 2), (51, .if_icmp .eq 27), (54, .aload_n 0), (55, .iload_n 1), (56, .iload_n 3), (57, .invokevirtual 39), (60, .ifCond .le 18), (63, .iload 4), (65, .iconst (-1)), (66, .if_icmp .eq 12), (69, .aload_n 0), (70, .iload_n 1), (71, .iload 4), (73, .iload_n 3), (74, .invokevirtual 54), (77, .pop), (78, .iinc 3 1), (81, .goto (-43)), (84, .aload_n 0), (85, .getfield 7), (88, .bipush 38), (90, .dup2), (91, .iaload), (92, .iconst 1), (93, .iadd), (94, .iastore), (95, .return_)]
theorem D_Mo_sort : gdec prog_8_method_18_code T_Mo_sort = true := by decide +kernel
def T_Mo_emptyTray : List (Nat × Instr) := [(0, .iconst (-1)), (1, .istore_n 1), (2, .iconst 5), (3, .istore_n 2), (4, .iload_n 2), (5, .ifCond .lt 23), (8, .aload_n 0), (9, .iload_n 2), (10, .invokevirtual 43), (13, .ifCond .ne 7), (16, .iload_n 2), (17, .goto 4), (20, .iload_n 1), (21, .istore_n 1), (22, .iinc 2 (-1)), (25, .goto (-21)), (28, .iload_n 1), (29, .ireturn)]
theorem D_Mo_emptyTray : gdec prog_8_method_17_code T_Mo_emptyTray = true := by decide +kernel
def T_Mo_layOrder : List (Nat × Instr) := [(0, .iconst 0), (1, .istore_n 1), (2, .iload_n 1), (3, .aload_n 0), (4, .getfield 7), (7, .bipush 52), (9, .iaload), (10, .if_icmp .ge 58), (13, .iload_n 1), (14, .istore_n 2), (15, .iload_n 2), (16, .ifCond .le 39), (19, .aload_n 0), (20, .iload_n 1), (21, .aload_n 0), (22, .getfield 22), (25, .iload_n 2), (26, .iconst 1), (27, .isub), (28, .iaload), (29, .invokevirtual 89), (32, .ifCond .eq 23), (35, .aload_n 0), (36, .getfield 22), (39, .iload_n 2), (40, .aload_n 0), (41, .getfield 22), (44, .iload_n 2), (45, .iconst 1), (46, .isub), (47, .iaload), (48, .iastore), (49, .iinc 2 (-1)), (52, .goto (-37)), (55, .aload_n 0), (56, .getfield 22), (59, .iload_n 2), (60, .iload_n 1), (61, .iastore), (62, .iinc 1 1), (65, .goto (-63)), (68, .return_)]
theorem D_Mo_layOrder : gdec prog_8_method_31_code T_Mo_layOrder = true := by decide +kernel
def T_Mo_isAhead : List (Nat × Instr) := [(0, .aload_n 0), (1, .getfield 7), (4, .bipush 30), (6, .iaload), (7, .ifCond .ne 7), (10, .iconst 3), (11, .goto 4), (14, .iconst 2), (15, .istore_n 3), (16, .aload_n 0), (17, .iload_n 1), (18, .iload_n 3), (19, .invokevirtual 75), (22, .aload_n 0), (23, .iload_n 2), (24, .iload_n 3), (25, .invokevirtual 75), (28, .if_icmp .eq 26), (31, .aload_n 0), (32, .iload_n 1), (33, .iload_n 3), (34, .invokevirtual 75), (37, .aload_n 0), (38, .iload_n 2), (39, .iload_n 3), (40, .invokevirtual 75), (43, .if_icmp .ge 7), (46, .iconst 1), (47, .goto 27), (50, .iconst 0), (51, .goto 23), (54, .aload_n 0), (55, .iload_n 1), (56, .iconst 0), (57, .invokevirtual 75), (60, .aload_n 0), (61, .iload_n 2), (62, .iconst 0), (63, .invokevirtual 75), (66, .if_icmp .ge 7), (69, .iconst 1), (70, .goto 4), (73, .iconst 0), (74, .ireturn)]
theorem D_Mo_isAhead : gdec prog_8_method_30_code T_Mo_isAhead = true := by decide +kernel
def T_Mo_workOn : List (Nat × Instr) := [(0, .iconst 0), (1, .istore_n 2), (2, .aload_n 0), (3, .getfield 105), (6, .ifCond .le 47), (9, .aload_n 0), (10, .iload_n 1), (11, .iconst 2), (12, .invokevirtual 75), (15, .ifCond .le 38), (18, .aload_n 0), (19, .aload_n 0), (20, .iload_n 1), (21, .iconst 1), (22, .invokevirtual 75), (25, .iconst 1), (26, .invokevirtual 101), (29, .ifCond .le 24), (32, .iload_n 2), (33, .aload_n 0), (34, .iload_n 1), (35, .invokevirtual 108), (38, .iadd), (39, .istore_n 2), (40, .aload_n 0), (41, .dup), (42, .getfield 105), (45, .iconst 1), (46, .isub), (47, .putfield 105), (50, .goto (-48)), (53, .iload_n 2), (54, .ireturn)]
theorem D_Mo_workOn : gdec prog_8_method_36_code T_Mo_workOn = true := by decide +kernel
def T_Mo_inTrays : List (Nat × Instr) := [(0, .iconst 0), (1, .istore_n 3), (2, .iconst 0), (3, .istore 4), (5, .iload 4), (7, .bipush 6), (9, .if_icmp .ge 37), (12, .iload_n 3), (13, .iload_n 2), (14, .ifCond .eq 17), (17, .aload_n 0), (18, .iload 4), (20, .invokevirtual 95), (23, .iconst 1), (24, .if_icmp .le 7), (27, .iconst 0), (28, .goto 10), (31, .aload_n 0), (32, .iload 4), (34, .iload_n 1), (35, .invokevirtual 39), (38, .iadd), (39, .istore_n 3), (40, .iinc 4 1), (43, .goto (-38)), (46, .iload_n 3), (47, .ireturn)]
theorem D_Mo_inTrays : gdec prog_8_method_34_code T_Mo_inTrays = true := by decide +kernel
def T_Mo_layCubes : List (Nat × Instr) := [(0, .aload_n 0), (1, .iload_n 1), (2, .iconst 1), (3, .invokevirtual 75), (6, .istore_n 2), (7, .aload_n 0), (8, .aload_n 0), (9, .iload_n 1), (10, .iconst 2), (11, .invokevirtual 75), (14, .invokevirtual 98), (17, .istore_n 3), (18, .iload_n 3), (19, .aload_n 0), (20, .getfield 7), (23, .bipush 32), (25, .iaload), (26, .if_icmp .ge 7), (29, .iload_n 3), (30, .goto 10), (33, .aload_n 0), (34, .getfield 7), (37, .bipush 32), (39, .iaload), (40, .istore_n 3), (41, .iload_n 3), (42, .aload_n 0), (43, .iload_n 2), (44, .iconst 1), (45, .invokevirtual 101), (48, .if_icmp .ge 7), (51, .iload_n 3), (52, .goto 9), (55, .aload_n 0), (56, .iload_n 2), (57, .iconst 1), (58, .invokevirtual 101), (61, .istore_n 3), (62, .iload_n 3), (63, .istore 4), (65, .iconst 0), (66, .istore 5), (68, .iload 5), (70, .bipush 6), (72, .if_icmp .ge 73), (75, .aload_n 0), (76, .iload 5), (78, .invokevirtual 95), (81, .iconst 1), (82, .if_icmp .le 7), (85, .iconst 0), (86, .goto 10), (89, .aload_n 0), (90, .iload 5), (92, .iload_n 2), (93, .invokevirtual 39), (96, .istore 6), (98, .iload 6), (100, .iload 4), (102, .if_icmp .ge 8), (105, .iload 6), (107, .goto 5), (110, .iload 4), (112, .istore 6), (114, .aload_n 0), (115, .getfield 7), (118, .iconst 4), (119, .iconst 4), (120, .iload 5), (122, .imul), (123, .iadd), (124, .iload_n 2), (125, .iadd), (126, .dup2), (127, .iaload), (128, .iload 6), (130, .isub), (131, .iastore), (132, .iload 4), (134, .iload 6), (136, .isub), (137, .istore 4), (139, .iinc 5 1), (142, .goto (-74)), (145, .iload_n 3), (146, .aload_n 0), (147, .iload_n 3), (148, .invokevirtual 92), (151, .isub), (152, .istore 5), (154, .aload_n 0), (155, .getfield 7), (158, .bipush 43), (160, .iload_n 2), (161, .iadd), (162, .dup2), (163, .iaload), (164, .aload_n 0), (165, .iload_n 3), (166, .invokevirtual 92), (169, .iadd), (170, .iastore), (171, .aload_n 0), (172, .getfield 7), (175, .bipush 47), (177, .iload_n 2), (178, .iadd), (179, .dup2), (180, .iaload), (181, .iload 5), (183, .iadd), (184, .iastore), (185, .aload_n 0), (186, .iload_n 1), (187, .iconst 4), (188, .aload_n 0), (189, .iload_n 1), (190, .iconst 4), (191, .invokevirtual 75), (194, .iload 5), (196, .iadd), (197, .invokevirtual 68), (200, .aload_n 0), (201, .iload_n 1), (202, .iconst 2), (203, .aload_n 0), (204, .iload_n 1), (205, .iconst 2), (206, .invokevirtual 75), (209, .iload 5), (211, .isub), (212, .invokevirtual 68), (215, .iload 5), (217, .ireturn)]
theorem D_Mo_layCubes : gdec prog_8_method_35_code T_Mo_layCubes = true := by decide +kernel
def T_Mo_takenFor : List (Nat × Instr) := [(0, .iload_n 1), (1, .istore_n 2), (2, .iload_n 2), (3, .aload_n 0), (4, .iload_n 2), (5, .invokevirtual 92), (8, .isub), (9, .iload_n 1), (10, .if_icmp .ge 9), (13, .iinc 2 1), (16, .goto (-14)), (19, .iload_n 2), (20, .ireturn)]
theorem D_Mo_takenFor : gdec prog_8_method_33_code T_Mo_takenFor = true := by decide +kernel
def T_Mo_broken : List (Nat × Instr) := [(0, .aload_n 0), (1, .getfield 7), (4, .bipush 33), (6, .iaload), (7, .ifCond .ne 7), (10, .iconst 0), (11, .goto 12), (14, .iload_n 1), (15, .aload_n 0), (16, .getfield 7), (19, .bipush 33), (21, .iaload), (22, .idiv), (23, .ireturn)]
theorem D_Mo_broken : gdec prog_8_method_32_code T_Mo_broken = true := by decide +kernel
def T_Mo_endDone : List (Nat × Instr) := [(0, .aload_n 0), (1, .getfield 7), (4, .bipush 52), (6, .iaload), (7, .iconst 1), (8, .isub), (9, .istore_n 1), (10, .iload_n 1), (11, .ifCond .lt 87), (14, .aload_n 0), (15, .iload_n 1), (16, .iconst 2), (17, .invokevirtual 75), (20, .ifCond .ne 72), (23, .aload_n 0), (24, .getfield 7), (27, .bipush 34), (29, .iaload), (30, .aload_n 0), (31, .iload_n 1), (32, .iconst 3), (33, .invokevirtual 75), (36, .isub), (37, .istore_n 2), (38, .aload_n 0), (39, .getfield 7), (42, .bipush 35), (44, .dup2), (45, .iaload), (46, .iconst 1), (47, .iadd), (48, .iastore), (49, .aload_n 0), (50, .getfield 7), (53, .bipush 36), (55, .dup2), (56, .iaload), (57, .iload_n 2), (58, .ifCond .le 7), (61, .iconst 1), (62, .goto 4), (65, .iconst 0), (66, .iadd), (67, .iastore), (68, .aload_n 0), (69, .getfield 7), (72, .bipush 37), (74, .dup2), (75, .iaload), (76, .iload_n 2), (77, .ifCond .le 7), (80, .iload_n 2), (81, .goto 4), (84, .iconst 0), (85, .iadd), (86, .iastore), (87, .aload_n 0), (88, .iload_n 1), (89, .invokevirtual 81), (92, .iinc 1 (-1)), (95, .goto (-85)), (98, .return_)]
theorem D_Mo_endDone : gdec prog_8_method_37_code T_Mo_endDone = true := by decide +kernel
def T_Mo_append : List (Nat × Instr) := [(0, .aload_n 0), (1, .iload_n 1), (2, .bipush 33), (4, .bipush 126), (6, .invokestatic 32), (9, .ifCond .ne 7), (12, .iconst 1), (13, .goto 17), (16, .aload_n 0), (17, .getfield 129), (20, .bipush 60), (22, .if_icmp .ne 7), (25, .iconst 2), (26, .goto 4), (29, .iconst 0), (30, .putfield 28), (33, .aload_n 0), (34, .getfield 28), (37, .ifCond .le 5), (40, .iconst 0), (41, .ireturn), (42, .aload_n 0), (43, .getfield 19), (46, .aload_n 0), (47, .getfield 129), (50, .iload_n 1), (51, .iastore), (52, .aload_n 0), (53, .dup), (54, .getfield 129), (57, .iconst 1), (58, .iadd), (59, .putfield 129), (62, .aload_n 0), (63, .getfield 129), (66, .ireturn)]
theorem D_Mo_append : gdec prog_8_method_41_code T_Mo_append = true := by decide +kernel
def T_Mo_clearBuffer : List (Nat × Instr) := [(0, .aload_n 0), (1, .iconst 0), (2, .putfield 28), (5, .aload_n 0), (6, .getfield 129), (9, .istore_n 1), (10, .aload_n 0), (11, .iconst 0), (12, .putfield 129), (15, .iload_n 1), (16, .ireturn)]
theorem D_Mo_clearBuffer : gdec prog_8_method_42_code T_Mo_clearBuffer = true := by decide +kernel
def T_Mo_firstError : List (Nat × Instr) := [(0, .aload_n 0), (1, .iconst 0), (2, .putfield 28), (5, .aload_n 0), (6, .invokevirtual 154), (9, .istore_n 1), (10, .iload_n 1), (11, .iconst (-1)), (12, .if_icmp .ne 10), (15, .aload_n 0), (16, .getfield 129), (19, .goto 4), (22, .iload_n 1), (23, .ireturn)]
theorem D_Mo_firstError : gdec prog_8_method_48_code T_Mo_firstError = true := by decide +kernel
def T_Mo_readBuffer : List (Nat × Instr) := [(0, .aload_n 0), (1, .iconst 0), (2, .putfield 145), (5, .aload_n 0), (6, .iconst 0), (7, .putfield 132), (10, .aload_n 0), (11, .iconst (-1)), (12, .putfield 135), (15, .iconst 1), (16, .istore_n 1), (17, .iload_n 1), (18, .ifCond .eq 71), (21, .aload_n 0), (22, .invokevirtual 151), (25, .aload_n 0), (26, .getfield 135), (29, .iconst (-1)), (30, .if_icmp .ne 18), (33, .aload_n 0), (34, .getfield 132), (37, .aload_n 0), (38, .getfield 129), (41, .if_icmp .ge 7), (44, .iconst 1), (45, .goto 4), (48, .iconst 0), (49, .istore_n 1), (50, .iload_n 1), (51, .ifCond .eq (-34)), (54, .aload_n 0), (55, .aload_n 0), (56, .invokevirtual 138), (59, .bipush 59), (61, .if_icmp .ne 7), (64, .iconst 1), (65, .goto 4), (68, .iconst 0), (69, .invokevirtual 141), (72, .aload_n 0), (73, .getfield 135), (76, .iconst (-1)), (77, .if_icmp .ne 7), (80, .iconst 1), (81, .goto 4), (84, .iconst 0), (85, .istore_n 1), (86, .goto (-69)), (89, .aload_n 0), (90, .getfield 135), (93, .ireturn)]
theorem D_Mo_readBuffer : gdec prog_8_method_47_code T_Mo_readBuffer = true := by decide +kernel
def T_Mo_readPart : List (Nat × Instr) := [(0, .iconst 3), (1, .aload_n 0), (2, .getfield 145), (5, .imul), (6, .istore_n 1), (7, .aload_n 0), (8, .getfield 25), (11, .iload_n 1), (12, .aload_n 0), (13, .iconst 1), (14, .sipush 500), (17, .invokevirtual 148), (20, .iastore), (21, .aload_n 0), (22, .getfield 25), (25, .iload_n 1), (26, .iconst 1), (27, .iadd), (28, .aload_n 0), (29, .invokevirtual 138), (32, .bipush 97), (34, .isub), (35, .iastore), (36, .aload_n 0), (37, .aload_n 0), (38, .invokevirtual 138), (41, .bipush 97), (43, .isub), (44, .invokestatic 58), (47, .invokevirtual 141), (50, .aload_n 0), (51, .aload_n 0), (52, .invokevirtual 138), (55, .bipush 64), (57, .if_icmp .ne 7), (60, .iconst 1), (61, .goto 4), (64, .iconst 0), (65, .invokevirtual 141), (68, .aload_n 0), (69, .getfield 25), (72, .iload_n 1), (73, .iconst 2), (74, .iadd), (75, .aload_n 0), (76, .iconst 0), (77, .sipush 999), (80, .invokevirtual 148), (83, .iastore), (84, .aload_n 0), (85, .dup), (86, .getfield 145), (89, .iconst 1), (90, .iadd), (91, .putfield 145), (94, .return_)]
theorem D_Mo_readPart : gdec prog_8_method_46_code T_Mo_readPart = true := by decide +kernel
def T_Mo_number : List (Nat × Instr) := [(0, .aload_n 0), (1, .invokevirtual 138), (4, .bipush 48), (6, .isub), (7, .istore_n 3), (8, .aload_n 0), (9, .iload_n 3), (10, .iload_n 1), (11, .bipush 9), (13, .invokestatic 32), (16, .invokevirtual 141), (19, .aload_n 0), (20, .invokevirtual 138), (23, .bipush 48), (25, .isub), (26, .istore 4), (28, .aload_n 0), (29, .getfield 135), (32, .iconst (-1)), (33, .if_icmp .ne 59), (36, .iload_n 3), (37, .ifCond .le 55), (40, .iload 4), (42, .iconst 0), (43, .bipush 9), (45, .invokestatic 32), (48, .ifCond .eq 44), (51, .bipush 10), (53, .iload_n 3), (54, .imul), (55, .iload 4), (57, .iadd), (58, .iload_n 2), (59, .if_icmp .gt 33), (62, .bipush 10), (64, .iload_n 3), (65, .imul), (66, .iload 4), (68, .iadd), (69, .istore_n 3), (70, .aload_n 0), (71, .dup), (72, .getfield 132), (75, .iconst 1), (76, .iadd), (77, .putfield 132), (80, .aload_n 0), (81, .invokevirtual 138), (84, .bipush 48), (86, .isub), (87, .istore 4), (89, .goto (-61)), (92, .iload_n 3), (93, .ireturn)]
theorem D_Mo_number : gdec prog_8_method_45_code T_Mo_number = true := by decide +kernel
def T_Mo_letter : List (Nat × Instr) := [(0, .aload_n 0), (1, .getfield 132), (4, .aload_n 0), (5, .getfield 129), (8, .if_icmp .ge 15), (11, .aload_n 0), (12, .getfield 19), (15, .aload_n 0), (16, .getfield 132), (19, .iaload), (20, .goto 4), (23, .iconst (-1)), (24, .ireturn)]
theorem D_Mo_letter : gdec prog_8_method_43_code T_Mo_letter = true := by decide +kernel
def T_Mo_wants : List (Nat × Instr) := [(0, .aload_n 0), (1, .getfield 135), (4, .iconst (-1)), (5, .if_icmp .ne 29), (8, .aload_n 0), (9, .iload_n 1), (10, .ifCond .eq 7), (13, .iconst (-1)), (14, .goto 7), (17, .aload_n 0), (18, .getfield 132), (21, .putfield 135), (24, .aload_n 0), (25, .dup), (26, .getfield 132), (29, .iconst 1), (30, .iadd), (31, .putfield 132), (34, .return_)]
theorem D_Mo_wants : gdec prog_8_method_44_code T_Mo_wants = true := by decide +kernel
def T_Mo_addAll : List (Nat × Instr) := [(0, .aload_n 0), (1, .aload_n 0), (2, .invokevirtual 154), (5, .iconst (-1)), (6, .if_icmp .eq 7), (9, .iconst 1), (10, .goto 25), (13, .aload_n 0), (14, .getfield 7), (17, .bipush 52), (19, .iaload), (20, .aload_n 0), (21, .getfield 145), (24, .iadd), (25, .bipush 10), (27, .if_icmp .le 7), (30, .iconst 2), (31, .goto 4), (34, .iconst 0), (35, .putfield 28), (38, .aload_n 0), (39, .getfield 28), (42, .ifCond .le 5), (45, .iconst 0), (46, .ireturn), (47, .aload_n 0), (48, .invokevirtual 62), (51, .iconst 0), (52, .istore_n 1), (53, .iload_n 1), (54, .aload_n 0), (55, .getfield 145), (58, .if_icmp .ge 42), (61, .aload_n 0), (62, .aload_n 0), (63, .getfield 25), (66, .iconst 3), (67, .iload_n 1), (68, .imul), (69, .iconst 1), (70, .iadd), (71, .iaload), (72, .aload_n 0), (73, .getfield 25), (76, .iconst 3), (77, .iload_n 1), (78, .imul), (79, .iaload), (80, .aload_n 0), (81, .getfield 25), (84, .iconst 3), (85, .iload_n 1), (86, .imul), (87, .iconst 2), (88, .iadd), (89, .iaload), (90, .invokevirtual 72), (93, .pop), (94, .iinc 1 1), (97, .goto (-44)), (100, .aload_n 0), (101, .iconst 0), (102, .putfield 129), (105, .aload_n 0), (106, .getfield 7), (109, .bipush 52), (111, .iaload), (112, .ireturn)]
theorem D_Mo_addAll : gdec prog_8_method_49_code T_Mo_addAll = true := by decide +kernel
def T_Mo_tray : List (Nat × Instr) := [(0, .aload_n 0), (1, .iload_n 1), (2, .invokestatic 65), (5, .ifCond .eq 19), (8, .iload_n 2), (9, .invokestatic 58), (12, .ifCond .ne 8), (15, .iload_n 2), (16, .iconst (-1)), (17, .if_icmp .ne 7), (20, .iconst 0), (21, .goto 4), (24, .iconst 1), (25, .putfield 28), (28, .aload_n 0), (29, .getfield 28), (32, .ifCond .le 7), (35, .iconst 0), (36, .goto 22), (39, .iload_n 2), (40, .iconst (-1)), (41, .if_icmp .ne 11), (44, .aload_n 0), (45, .iload_n 1), (46, .invokevirtual 43), (49, .goto 9), (52, .aload_n 0), (53, .iload_n 1), (54, .iload_n 2), (55, .invokevirtual 39), (58, .ireturn)]
theorem D_Mo_tray : gdec prog_8_method_50_code T_Mo_tray = true := by decide +kernel
def T_Mo_sectionOf : List (Nat × Instr) := [(0, .aload_n 0), (1, .iload_n 1), (2, .ifCond .lt 16), (5, .iload_n 2), (6, .iconst 0), (7, .iconst 5), (8, .invokestatic 32), (11, .ifCond .eq 7), (14, .iconst 0), (15, .goto 4), (18, .iconst 1), (19, .putfield 28), (22, .aload_n 0), (23, .getfield 28), (26, .ifCond .le 7), (29, .iconst 0), (30, .goto 9), (33, .aload_n 0), (34, .iload_n 1), (35, .iload_n 2), (36, .invokevirtual 157), (39, .ireturn)]
theorem D_Mo_sectionOf : gdec prog_8_method_52_code T_Mo_sectionOf = true := by decide +kernel
def T_Mo_toldSection : List (Nat × Instr) := [(0, .iload_n 1), (1, .aload_n 0), (2, .getfield 7), (5, .bipush 52), (7, .iaload), (8, .if_icmp .lt 5), (11, .iconst (-1)), (12, .ireturn), (13, .aload_n 0), (14, .invokevirtual 114), (17, .aload_n 0), (18, .getfield 22), (21, .iload_n 1), (22, .iaload), (23, .istore_n 3), (24, .iload_n 2), (25, .iconst 5), (26, .if_icmp .ge 12), (29, .aload_n 0), (30, .iload_n 3), (31, .iload_n 2), (32, .invokevirtual 75), (35, .goto 24), (38, .aload_n 0), (39, .getfield 7), (42, .bipush 34), (44, .iaload), (45, .aload_n 0), (46, .iload_n 3), (47, .iconst 3), (48, .invokevirtual 75), (51, .if_icmp .le 7), (54, .iconst 1), (55, .goto 4), (58, .iconst 0), (59, .ireturn)]
theorem D_Mo_toldSection : gdec prog_8_method_51_code T_Mo_toldSection = true := by decide +kernel
def T_Mo_tone : List (Nat × Instr) := [(0, .aload_n 0), (1, .iload_n 1), (2, .invokestatic 58), (5, .ifCond .ne 7), (8, .iconst 1), (9, .goto 18), (12, .iload_n 2), (13, .iconst 0), (14, .bipush 6), (16, .invokestatic 32), (19, .ifCond .eq 7), (22, .iconst 0), (23, .goto 4), (26, .iconst 2), (27, .putfield 28), (30, .aload_n 0), (31, .getfield 28), (34, .ifCond .le 7), (37, .iconst 0), (38, .goto 9), (41, .aload_n 0), (42, .iload_n 1), (43, .iload_n 2), (44, .invokevirtual 163), (47, .ireturn)]
theorem D_Mo_tone : gdec prog_8_method_55_code T_Mo_tone = true := by decide +kernel
def T_Mo_toldTone : List (Nat × Instr) := [(0, .iload_n 2), (40, .aload_n 0), (41, .getfield 7), (44, .iconst 0), (45, .iload_n 1), (46, .iadd), (47, .iaload), (48, .ireturn), (49, .aload_n 0), (50, .iload_n 1), (51, .iload_n 2), (52, .iconst 2), (53, .if_icmp .ne 7), (56, .iconst 1), (57, .goto 4), (60, .iconst 0), (61, .invokevirtual 101), (64, .ireturn), (65, .aload_n 0), (66, .getfield 7), (69, .bipush 39), (71, .iload_n 1), (72, .iadd), (73, .iaload), (74, .ireturn), (75, .aload_n 0), (76, .getfield 7), (79, .bipush 47), (81, .iload_n 1), (82, .iadd), (83, .iaload), (84, .ireturn), (85, .aload_n 0), (86, .getfield 7), (89, .bipush 43), (91, .iload_n 1), (92, .iadd), (93, .iaload), (94, .ireturn), (95, .aload_n 0), (96, .iload_n 1), (97, .invokevirtual 160), (100, .ireturn)]
theorem D_Mo_toldTone : gdec prog_8_method_54_code T_Mo_toldTone = true := by decide +kernel
theorem S_Mo_toldTone_1 : decode prog_8_method_54_code 1 = .ok (.tableswitch 94 0 5 #[39, 48, 48, 64, 74, 84], 39) := by decide +kernel
def T_Mo_wanted : List (Nat × Instr) := [(0, .iconst 0), (1, .istore_n 2), (2, .iconst 0), (3, .istore_n 3), (4, .iload_n 3), (5, .aload_n 0), (6, .getfield 7), (9, .bipush 52), (11, .iaload), (12, .if_icmp .ge 32), (15, .iload_n 2), (16, .aload_n 0), (17, .iload_n 3), (18, .iconst 1), (19, .invokevirtual 75), (22, .iload_n 1), (23, .if_icmp .ne 12), (26, .aload_n 0), (27, .iload_n 3), (28, .iconst 2), (29, .invokevirtual 75), (32, .goto 4), (35, .iconst 0), (36, .iadd), (37, .istore_n 2), (38, .iinc 3 1), (41, .goto (-37)), (44, .iload_n 2), (45, .ireturn)]
theorem D_Mo_wanted : gdec prog_8_method_53_code T_Mo_wanted = true := by decide +kernel
def T_Mo_count : List (Nat × Instr) := [(0, .aload_n 0), (1, .iload_n 1), (2, .iconst 0), (3, .bipush 9), (5, .invokestatic 32), (8, .ifCond .eq 7), (11, .iconst 0), (12, .goto 4), (15, .iconst 1), (16, .putfield 28), (19, .aload_n 0), (20, .getfield 28), (23, .ifCond .le 7), (26, .iconst 0), (27, .goto 8), (30, .aload_n 0), (31, .iload_n 1), (32, .invokevirtual 173), (35, .ireturn)]
theorem D_Mo_count : gdec prog_8_method_59_code T_Mo_count = true := by decide +kernel
def T_Mo_counted : List (Nat × Instr) := [(0, .iload_n 1), (52, .aload_n 0), (53, .getfield 7), (56, .bipush 34), (58, .iaload), (59, .ireturn), (60, .aload_n 0), (61, .getfield 7), (64, .bipush 52), (66, .iaload), (67, .ireturn), (68, .aload_n 0), (69, .getfield 7), (72, .bipush 35), (74, .iload_n 1), (75, .iadd), (76, .iconst 2), (77, .isub), (78, .iaload), (79, .ireturn), (80, .aload_n 0), (81, .iload_n 1), (82, .iconst 5), (83, .if_icmp .ne 7), (86, .iconst 1), (87, .goto 4), (90, .iconst 0), (91, .invokevirtual 166), (94, .ireturn), (95, .aload_n 0), (96, .bipush 43), (98, .invokevirtual 170), (101, .ireturn), (102, .aload_n 0), (103, .getfield 7), (106, .bipush 38), (108, .iaload), (109, .ireturn), (110, .aload_n 0), (111, .getfield 36), (114, .ireturn)]
theorem D_Mo_counted : gdec prog_8_method_58_code T_Mo_counted = true := by decide +kernel
theorem S_Mo_counted_1 : decode prog_8_method_58_code 1 = .ok (.tableswitch 109 0 8 #[51, 59, 67, 67, 67, 79, 79, 94, 101], 51) := by decide +kernel
def T_Mo_trays : List (Nat × Instr) := [(0, .iconst 0), (1, .istore_n 2), (2, .iconst 0), (3, .istore_n 3), (4, .iload_n 3), (5, .bipush 6), (7, .if_icmp .ge 41), (10, .iload_n 2), (11, .iload_n 1), (12, .ifCond .eq 15), (15, .aload_n 0), (16, .iload_n 3), (17, .invokevirtual 95), (20, .iconst 1), (21, .if_icmp .le 18), (24, .goto 11), (27, .aload_n 0), (28, .iload_n 3), (29, .invokevirtual 43), (32, .ifCond .ne 7), (35, .iconst 1), (36, .goto 4), (39, .iconst 0), (40, .iadd), (41, .istore_n 2), (42, .iinc 3 1), (45, .goto (-41)), (48, .iload_n 2), (49, .ireturn)]
theorem D_Mo_trays : gdec prog_8_method_56_code T_Mo_trays = true := by decide +kernel
def T_Mo_allOf : List (Nat × Instr) := [(0, .iconst 0), (1, .istore_n 2), (2, .iconst 0), (3, .istore_n 3), (4, .iload_n 3), (5, .iconst 4), (6, .if_icmp .ge 20), (9, .iload_n 2), (10, .aload_n 0), (11, .getfield 7), (14, .iload_n 1), (15, .iload_n 3), (16, .iadd), (17, .iaload), (18, .iadd), (19, .istore_n 2), (20, .iinc 3 1), (23, .goto (-19)), (26, .iload_n 2), (27, .ireturn)]
theorem D_Mo_allOf : gdec prog_8_method_57_code T_Mo_allOf = true := by decide +kernel
def T_Mo_setting : List (Nat × Instr) := [(0, .aload_n 0), (1, .iload_n 1), (2, .iconst 0), (3, .iconst 5), (4, .invokestatic 32), (7, .ifCond .eq 7), (10, .iconst 0), (11, .goto 4), (14, .iconst 1), (15, .putfield 28), (18, .aload_n 0), (19, .getfield 28), (22, .ifCond .le 7), (25, .iconst 0), (26, .goto 12), (29, .aload_n 0), (30, .getfield 7), (33, .bipush 28), (35, .iload_n 1), (36, .iadd), (37, .iaload), (38, .ireturn)]
theorem D_Mo_setting : gdec prog_8_method_60_code T_Mo_setting = true := by decide +kernel
def T_Mo_taken : List (Nat × Instr) := [(0, .aload_n 0), (1, .iload_n 1), (2, .iconst 1), (3, .sipush 500), (6, .invokestatic 32), (9, .ifCond .eq 7), (12, .iconst 0), (13, .goto 4), (16, .iconst 1), (17, .putfield 28), (20, .aload_n 0), (21, .getfield 28), (24, .ifCond .le 7), (27, .iconst 0), (28, .goto 8), (31, .aload_n 0), (32, .iload_n 1), (33, .invokevirtual 98), (36, .ireturn)]
theorem D_Mo_taken : gdec prog_8_method_61_code T_Mo_taken = true := by decide +kernel
def T_Mo_missing : List (Nat × Instr) := [(0, .aload_n 0), (1, .iload_n 1), (2, .invokestatic 58), (5, .ifCond .eq 7), (8, .iconst 0), (9, .goto 4), (12, .iconst 1), (13, .putfield 28), (16, .aload_n 0), (17, .getfield 28), (20, .ifCond .le 7), (23, .iconst 0), (24, .goto 8), (27, .aload_n 0), (28, .iload_n 1), (29, .invokevirtual 176), (32, .ireturn)]
theorem D_Mo_missing : gdec prog_8_method_63_code T_Mo_missing = true := by decide +kernel
def T_Mo_lacks : List (Nat × Instr) := [(0, .aload_n 0), (1, .iload_n 1), (2, .iconst 0), (3, .invokevirtual 101), (6, .ineg), (7, .aload_n 0), (8, .getfield 7), (11, .iconst 0), (12, .iload_n 1), (13, .iadd), (14, .iaload), (15, .aload_n 0), (16, .getfield 7), (19, .bipush 28), (21, .iaload), (22, .imul), (23, .isub), (24, .istore_n 2), (25, .iconst 0), (26, .istore_n 3), (27, .iload_n 3), (28, .aload_n 0), (29, .getfield 7), (32, .bipush 52), (34, .iaload), (35, .if_icmp .ge 36), (38, .iload_n 2), (39, .aload_n 0), (40, .iload_n 3), (41, .iconst 1), (42, .invokevirtual 75), (45, .iload_n 1), (46, .if_icmp .ne 16), (49, .aload_n 0), (50, .aload_n 0), (51, .iload_n 3), (52, .iconst 2), (53, .invokevirtual 75), (56, .invokevirtual 98), (59, .goto 4), (62, .iconst 0), (63, .iadd), (64, .istore_n 2), (65, .iinc 3 1), (68, .goto (-41)), (71, .iload_n 2), (72, .ifCond .gt 7), (75, .iconst 0), (76, .goto 22), (79, .iload_n 2), (80, .aload_n 0), (81, .getfield 7), (84, .bipush 28), (86, .iaload), (87, .iadd), (88, .iconst 1), (89, .isub), (90, .aload_n 0), (91, .getfield 7), (94, .bipush 28), (96, .iaload), (97, .idiv), (98, .ireturn)]
theorem D_Mo_lacks : gdec prog_8_method_62_code T_Mo_lacks = true := by decide +kernel
def T_Mo_ifPassed : List (Nat × Instr) := [(0, .aload_n 0), (1, .iload_n 1), (2, .iconst 1), (3, .bipush 60), (5, .invokestatic 32), (8, .ifCond .eq 16), (11, .iload_n 2), (12, .iconst 0), (13, .iconst 3), (14, .invokestatic 32), (17, .ifCond .eq 7), (20, .iconst 0), (21, .goto 4), (24, .iconst 1), (25, .putfield 28), (28, .aload_n 0), (29, .getfield 28), (32, .ifCond .le 7), (35, .iconst 0), (36, .goto 9), (39, .aload_n 0), (40, .iload_n 1), (41, .iload_n 2), (42, .invokevirtual 185), (45, .ireturn)]
theorem D_Mo_ifPassed : gdec prog_8_method_65_code T_Mo_ifPassed = true := by decide +kernel
def T_Mo_wouldPass : List (Nat × Instr) := [(0, .aload_n 0), (1, .invokevirtual 179), (4, .aload_n 0), (5, .iload_n 1), (6, .invokevirtual 126), (9, .istore_n 3), (10, .iload_n 2), (11, .ifCond .ne 7), (14, .iload_n 3), (15, .goto 55), (18, .iload_n 2), (19, .iconst 1), (20, .if_icmp .ne 21), (23, .aload_n 0), (24, .getfield 7), (27, .bipush 35), (29, .iaload), (30, .aload_n 0), (31, .getfield 16), (34, .bipush 35), (36, .iaload), (37, .isub), (38, .goto 32), (41, .iload_n 2), (42, .iconst 2), (43, .if_icmp .ne 21), (46, .aload_n 0), (47, .getfield 7), (50, .bipush 37), (52, .iaload), (53, .aload_n 0), (54, .getfield 16), (57, .bipush 37), (59, .iaload), (60, .isub), (61, .goto 9), (64, .aload_n 0), (65, .bipush 43), (67, .invokevirtual 170), (70, .istore 4), (72, .aload_n 0), (73, .invokevirtual 182), (76, .iload_n 2), (77, .iconst 3), (78, .if_icmp .ne 15), (81, .iload 4), (83, .aload_n 0), (84, .bipush 43), (86, .invokevirtual 170), (89, .isub), (90, .goto 5), (93, .iload 4), (95, .ireturn)]
theorem D_Mo_wouldPass : gdec prog_8_method_64_code T_Mo_wouldPass = true := by decide +kernel
def T_Mo_putAside : List (Nat × Instr) := [(0, .iconst 0), (1, .istore_n 1), (2, .iload_n 1), (3, .bipush 103), (5, .if_icmp .ge 21), (8, .aload_n 0), (9, .getfield 16), (12, .iload_n 1), (13, .aload_n 0), (14, .getfield 7), (17, .iload_n 1), (18, .iaload), (19, .iastore), (20, .iinc 1 1), (23, .goto (-21)), (26, .return_)]
theorem D_Mo_putAside : gdec prog_8_method_11_code T_Mo_putAside = true := by decide +kernel
def T_Mo_bringBack : List (Nat × Instr) := [(0, .iconst 0), (1, .istore_n 1), (2, .iload_n 1), (3, .bipush 103), (5, .if_icmp .ge 21), (8, .aload_n 0), (9, .getfield 7), (12, .iload_n 1), (13, .aload_n 0), (14, .getfield 16), (17, .iload_n 1), (18, .iaload), (19, .iastore), (20, .iinc 1 1), (23, .goto (-21)), (26, .return_)]
theorem D_Mo_bringBack : gdec prog_8_method_12_code T_Mo_bringBack = true := by decide +kernel
def T_Mo_doneIn : List (Nat × Instr) := [(0, .aload_n 0), (1, .aload_n 0), (2, .iload_n 1), (3, .invokevirtual 78), (6, .iconst (-1)), (7, .if_icmp .ne 7), (10, .iconst 1), (11, .goto 4), (14, .iconst 0), (15, .putfield 28), (18, .aload_n 0), (19, .getfield 28), (22, .ifCond .le 7), (25, .iconst 0), (26, .goto 8), (29, .aload_n 0), (30, .iload_n 1), (31, .invokevirtual 188), (34, .ireturn)]
theorem D_Mo_doneIn : gdec prog_8_method_67_code T_Mo_doneIn = true := by decide +kernel
def T_Mo_daysTo : List (Nat × Instr) := [(0, .aload_n 0), (1, .invokevirtual 179), (4, .iconst (-1)), (5, .istore_n 2), (6, .iconst 1), (7, .istore_n 3), (8, .iload_n 3), (9, .bipush 60), (11, .if_icmp .gt 34), (14, .iload_n 2), (15, .iconst (-1)), (16, .if_icmp .ne 29), (19, .aload_n 0), (20, .invokevirtual 123), (23, .pop), (24, .aload_n 0), (25, .iload_n 1), (26, .invokevirtual 78), (29, .iconst (-1)), (30, .if_icmp .ne 7), (33, .iload_n 3), (34, .goto 4), (37, .iconst (-1)), (38, .istore_n 2), (39, .iinc 3 1), (42, .goto (-34)), (45, .aload_n 0), (46, .invokevirtual 182), (49, .iload_n 2), (50, .ireturn)]
theorem D_Mo_daysTo : gdec prog_8_method_66_code T_Mo_daysTo = true := by decide +kernel
def T_Mo_bestOrder : List (Nat × Instr) := [(0, .aload_n 0), (1, .iload_n 1), (2, .iconst 1), (3, .bipush 30), (5, .invokestatic 32), (8, .ifCond .eq 7), (11, .iconst 0), (12, .goto 4), (15, .iconst 1), (16, .putfield 28), (19, .aload_n 0), (20, .getfield 28), (23, .ifCond .le 7), (26, .iconst 0), (27, .goto 8), (30, .aload_n 0), (31, .iload_n 1), (32, .invokevirtual 191), (35, .ireturn)]
theorem D_Mo_bestOrder : gdec prog_8_method_69_code T_Mo_bestOrder = true := by decide +kernel
def T_Mo_bestFor : List (Nat × Instr) := [(0, .aload_n 0), (1, .getfield 7), (4, .bipush 30), (6, .iaload), (7, .istore_n 2), (8, .aload_n 0), (9, .getfield 7), (12, .bipush 30), (14, .iconst 0), (15, .iastore), (16, .aload_n 0), (17, .iload_n 1), (18, .iconst 1), (19, .invokevirtual 185), (22, .istore_n 3), (23, .aload_n 0), (24, .iload_n 1), (25, .iconst 2), (26, .invokevirtual 185), (29, .istore 4), (31, .aload_n 0), (32, .getfield 7), (35, .bipush 30), (37, .iconst 1), (38, .iastore), (39, .aload_n 0), (40, .iload_n 1), (41, .iconst 1), (42, .invokevirtual 185), (45, .istore 5), (47, .aload_n 0), (48, .iload_n 1), (49, .iconst 2), (50, .invokevirtual 185), (53, .istore 6), (55, .aload_n 0), (56, .getfield 7), (59, .bipush 30), (61, .iload_n 2), (62, .iastore), (63, .iload 5), (65, .iload_n 3), (66, .if_icmp .gt 16), (69, .iload 5), (71, .iload_n 3), (72, .if_icmp .ne 14), (75, .iload 6), (77, .iload 4), (79, .if_icmp .ge 7), (82, .iconst 1), (83, .goto 4), (86, .iconst 0), (87, .ireturn)]
theorem D_Mo_bestFor : gdec prog_8_method_68_code T_Mo_bestFor = true := by decide +kernel
def T_Mo_laidShare : List (Nat × Instr) := [(0, .aload_n 0), (1, .iconst 0), (2, .putfield 28), (5, .aload_n 0), (6, .invokevirtual 194), (9, .dreturn)]
theorem D_Mo_laidShare : gdec prog_8_method_71_code T_Mo_laidShare = true := by decide +kernel
def T_Mo_share : List (Nat × Instr) := [(0, .aload_n 0), (1, .bipush 39), (3, .invokevirtual 170), (6, .ifCond .ne 7), (9, .dconst 1), (10, .goto 18), (13, .aload_n 0), (14, .bipush 47), (16, .invokevirtual 170), (19, .i2d), (20, .aload_n 0), (21, .bipush 39), (23, .invokevirtual 170), (26, .i2d), (27, .ddiv), (28, .dreturn)]
theorem D_Mo_share : gdec prog_8_method_70_code T_Mo_share = true := by decide +kernel
def T_Mo_digest : List (Nat × Instr) := [(0, .aload_n 0), (1, .iconst 0), (2, .putfield 28), (5, .aload_n 0), (6, .ldc2_w 216), (9, .putfield 208), (12, .iconst 0), (13, .istore_n 1), (14, .iload_n 1), (15, .bipush 9), (17, .if_icmp .gt 19), (20, .aload_n 0), (21, .aload_n 0), (22, .iload_n 1), (23, .invokevirtual 173), (26, .i2l), (27, .invokevirtual 212), (30, .iinc 1 1), (33, .goto (-19)), (36, .iconst 0), (37, .istore_n 1), (38, .iload_n 1), (39, .iconst 5), (40, .if_icmp .gt 23), (43, .aload_n 0), (44, .aload_n 0), (45, .getfield 7), (48, .bipush 28), (50, .iload_n 1), (51, .iadd), (52, .iaload), (53, .i2l), (54, .invokevirtual 212), (57, .iinc 1 1), (60, .goto (-22)), (63, .iconst 0), (64, .istore_n 1), (65, .iload_n 1), (66, .bipush 24), (68, .if_icmp .ge 22), (71, .aload_n 0), (72, .aload_n 0), (73, .getfield 7), (76, .iconst 4), (77, .iload_n 1), (78, .iadd), (79, .iaload), (80, .i2l), (81, .invokevirtual 212), (84, .iinc 1 1), (87, .goto (-22)), (90, .aload_n 0), (91, .invokevirtual 218), (94, .iconst 0), (95, .istore_n 1), (96, .iload_n 1), (97, .iconst 4), (98, .if_icmp .ge 44), (101, .iconst 0), (102, .istore_n 2), (103, .iload_n 2), (104, .bipush 6), (106, .if_icmp .gt 20), (109, .aload_n 0), (110, .aload_n 0), (111, .iload_n 1), (112, .iload_n 2), (113, .invokevirtual 163), (116, .i2l), (117, .invokevirtual 212), (120, .iinc 2 1), (123, .goto (-20)), (126, .aload_n 0), (127, .aload_n 0), (128, .iload_n 1), (129, .invokevirtual 176), (132, .i2l), (133, .invokevirtual 212), (136, .iinc 1 1), (139, .goto (-43)), (142, .aload_n 0), (143, .aload_n 0), (144, .bipush 100), (146, .invokevirtual 98), (149, .i2l), (150, .invokevirtual 212), (153, .iconst 0), (154, .istore_n 1), (155, .iload_n 1), (156, .iconst 3), (157, .if_icmp .gt 20), (160, .aload_n 0), (161, .aload_n 0), (162, .iconst 5), (163, .iload_n 1), (164, .invokevirtual 185), (167, .i2l), (168, .invokevirtual 212), (171, .iinc 1 1), (174, .goto (-19)), (177, .aload_n 0), (178, .aload_n 0), (179, .bipush 9), (181, .invokevirtual 191), (184, .i2l), (185, .invokevirtual 212), (188, .aload_n 0), (189, .aload_n 0), (190, .invokevirtual 194), (193, .invokestatic 221), (196, .invokevirtual 212), (199, .aload_n 0), (200, .aload_n 0), (201, .getfield 129), (204, .i2l), (205, .invokevirtual 212), (208, .iconst 0), (209, .istore_n 1), (210, .iload_n 1), (211, .aload_n 0), (212, .getfield 129), (215, .if_icmp .ge 20), (218, .aload_n 0), (219, .aload_n 0), (220, .getfield 19), (223, .iload_n 1), (224, .iaload), (225, .i2l), (226, .invokevirtual 212), (229, .iinc 1 1), (232, .goto (-22)), (235, .aload_n 0), (236, .getfield 208), (239, .lreturn)]
theorem D_Mo_digest : gdec prog_8_method_75_code T_Mo_digest = true := by decide +kernel
def T_Mo_mix : List (Nat × Instr) := [(0, .aload_n 0), (1, .ldc2_w 206), (4, .aload_n 0), (5, .getfield 208), (8, .lmul), (9, .lload_n 1), (10, .ladd), (11, .putfield 208), (14, .return_)]
theorem D_Mo_mix : gdec prog_8_method_73_code T_Mo_mix = true := by decide +kernel
def T_Mo_mixSections : List (Nat × Instr) := [(0, .iconst 0), (1, .istore_n 1), (2, .iload_n 1), (3, .aload_n 0), (4, .getfield 7), (7, .bipush 52), (9, .iaload), (10, .if_icmp .ge 48), (13, .iconst 0), (14, .istore_n 2), (15, .iload_n 2), (16, .iconst 5), (17, .if_icmp .gt 20), (20, .aload_n 0), (21, .aload_n 0), (22, .iload_n 1), (23, .iload_n 2), (24, .invokevirtual 157), (27, .i2l), (28, .invokevirtual 212), (31, .iinc 2 1), (34, .goto (-19)), (37, .aload_n 0), (38, .aload_n 0), (39, .aload_n 0), (40, .iload_n 1), (41, .iconst 0), (42, .invokevirtual 157), (45, .invokevirtual 188), (48, .i2l), (49, .invokevirtual 212), (52, .iinc 1 1), (55, .goto (-53)), (58, .return_)]
theorem D_Mo_mixSections : gdec prog_8_method_74_code T_Mo_mixSections = true := by decide +kernel
def T_Mo_bitsOf : List (Nat × Instr) := [(0, .dload_n 0), (1, .dconst 0), (2, .dcmp .l), (3, .ifCond .ne 5), (6, .lconst 0), (7, .lreturn), (8, .dload_n 0), (9, .dstore_n 2), (10, .ldc2_w 198), (13, .lstore 4), (15, .dload_n 2), (16, .ldc2_w 200), (19, .dcmp .l), (20, .ifCond .lt 18), (23, .dload_n 2), (24, .ldc2_w 200), (27, .ddiv), (28, .dstore_n 2), (29, .lload 4), (31, .lconst 1), (32, .ladd), (33, .lstore 4), (35, .goto (-20)), (38, .dload_n 2), (39, .dconst 1), (40, .dcmp .g), (41, .ifCond .ge 18), (44, .dload_n 2), (45, .ldc2_w 200), (48, .dmul), (49, .dstore_n 2), (50, .lload 4), (52, .lconst 1), (53, .lsub), (54, .lstore 4), (56, .goto (-18)), (59, .lload 4), (61, .bipush 52), (63, .lshl), (64, .dload_n 2), (65, .ldc2_w 202), (68, .dmul), (69, .d2l), (70, .ladd), (71, .ldc2_w 204), (74, .lsub), (75, .lreturn)]
theorem D_Mo_bitsOf : gdec prog_8_method_72_code T_Mo_bitsOf = true := by decide +kernel
end
section
/-! small facts for the walks -/
theorem gadd {x y : Int32} {a b : Nat} (h1 : x = nI a) (h2 : y = nI b) : x + y = nI (a + b) := by rw [h1, h2, nI_add]
theorem gmul {x y : Int32} {a b : Nat} (h1 : x = nI a) (h2 : y = nI b) : x * y = nI (a * b) := by rw [h1, h2, pk_mul]
theorem gsub {x y : Int32} {a b : Nat} (h1 : x = nI a) (h2 : y = nI b) (h : b ≤ a) : x - y = nI (a - b) := by rw [h1, h2, pk_sub h]
theorem gpred {x : Int32} {a : Nat} (h1 : x = nI (a + 1)) : x + (-1) = nI a := by rw [h1, pk_m1]
theorem gdec1 {x : Int32} {a : Nat} (h1 : x = nI a) (h : 1 ≤ a) : x + (-1) = nI (a - 1) := gpred (by rw [h1, Nat.sub_add_cancel h])
theorem gvin {x : Int32} {a n : Nat} (h1 : x = nI a) (h : a < n) (hn : n < 2 ^ 31) : vp_in x n := by rw [h1]; exact vp_in_nI h hn
theorem gclp {x : Int32} {a : Nat} (h1 : x = nI a) (h : a < 2 ^ 31) : x.toNatClampNeg = a := by rw [h1]; exact nI_clamp h
theorem gle {x y : Int32} {a b : Nat} (h1 : x = nI a) (h2 : y = nI b) (ha : a < 2 ^ 31) (hb : b < 2 ^ 31) : x ≤ y ↔ a ≤ b := by rw [h1, h2]; exact nI_leI ha hb
theorem glt {x y : Int32} {a b : Nat} (h1 : x = nI a) (h2 : y = nI b) (ha : a < 2 ^ 31) (hb : b < 2 ^ 31) : x < y ↔ a < b := by rw [h1, h2]; exact nI_ltI ha hb
theorem geq {x y : Int32} {a b : Nat} (h1 : x = nI a) (h2 : y = nI b) (ha : a < 2 ^ 31) (hb : b < 2 ^ 31) : x = y ↔ a = b := by rw [h1, h2]; exact nI_eq ha hb
theorem gk (n : Nat) : Int32.ofNat n = nI n := rfl
theorem gvl (k n : Nat) (h : k < n) (hn : n < 2 ^ 31) : vp_in (Int32.ofNat k) n := vp_in_nI h hn
theorem gsub1 {x : Int32} {a : Nat} (h1 : x = nI (a + 1)) : x - 1 = nI a := gsub h1 (gk 1) (Nat.le_add_left 1 a)
theorem gacs (c : Int32) : c + 1 - 1 = c := by rw [Int32.add_sub_cancel]
/-- a boolean as the machine has it -/
def bI (b : Bool) : Int32 := if b = true then 1 else 0
theorem bI_t {b : Bool} (h : ¬ bI b = 0) : b = true := by
  cases b with
  | true => rfl
  | false => exact absurd rfl h
theorem bI_f {b : Bool} (h : bI b = 0) : b = false := by
  cases b with
  | true => exact absurd h (by decide)
  | false => rfl
end
section
/-! System.arraycopy of a whole row of ints onto another of the same length -/
theorem grow_eq {c : ClassId} {n : Nat} {f g : Nat → Int32} : arrV c n (fun j => Value.int (va_cpy f g 0 0 n j)) = arrV c n (fun j => Value.int (f j)) := by
  unfold arrV
  congr 1
  congr 1
  funext j
  have h : va_cpy f g 0 0 n j.val = f j.val := sb_cpy0 j.isLt
  show Value.int (va_cpy f g 0 0 n j.val) = Value.int (f j.val)
  rw [h]
theorem gint_nn {z : Int32} (hz : ¬ z < 0) : z.toInt = (z.toNatClampNeg : Int) := by
  have h0 : (0 : Int) ≤ z.toInt := by
    have := Int32.not_lt.mp hz
    simpa using Int32.le_iff_toInt_le.mp this
  show z.toInt = ((z.toInt.toNat : Nat) : Int)
  omega
section GY
variable {K : gK} {sc : Nat × (Nat → Int32)} {R : Room} {n0 : Nat} {E : gO → gH → Prop} {cs ss pc : Nat} {l : gL} {st : List Value} {h : gH}
theorem gW_copy {i a0 a1 N : Nat} {n : Int32} {f g : Nat → Int32} (hl0 : Cond.methodLink (gown K.1) i arraycopyName ∈ gTs) (hd : decode K.2.2.1 pc = .ok (.invokestatic i, 3)) (h0 : h[a0]? = some (cI N f)) (h1 : h[a1]? = some (cI N g)) (hn : n = nI N) (hN : N < 2 ^ 31) (hf : 1 ≤ R.frames) (hlo : (st.map fun v => v.category).sum + (nativeFrameWords "java/lang/System" "arraycopy" 5 + 11) ≤ R.locals)
    (k : gW K sc R n0 E cs ss (pc + 3) l st (h.set a1 (cI N f))) : gW K sc R n0 E cs ss pc l (.int n :: .int 0 :: .ref a1 :: .int 0 :: .ref a0 :: st) h := by
  intro p la e s m args below meth c G ad0 A X H locs ad ls had hl hP hD hS
  obtain ⟨hx, hb, hml, hown, hts, hK, hamb, hA, -⟩ := id X
  have hcl : n.toNatClampNeg = N := by rw [hn]; exact nI_clamp hN
  have hz0 : (0 : Int32).toNatClampNeg = 0 := rfl
  refine va_copyi hx hb (hml.trans hl.1.symm) hown (hts _ hl0) (hts _ (gmem 139 (by decide +kernel))) (hts _ (gmem 138 (by decide +kernel))) (hts _ (gmem 76 (by decide +kernel))) hK hP hD hS a0 a1 0 0 (gmw_of h0) (gmw_of h1) rfl rfl rfl (by decide) (by decide) (by rw [hn]; exact nI_pos hN) (by rw [hcl, hz0]; omega) (by rw [hcl, hz0]; omega) (fun _ _ => rfl) hf (by rw [gcats]; exact hlo) hd (fun H1 locs1 hP1 hD1 hS1 => ?_)
  have e1 : va_cpy f g (0 : Int32).toNatClampNeg (0 : Int32).toNatClampNeg n.toNatClampNeg = va_cpy f g 0 0 N := by rw [hcl, hz0]
  rw [e1] at hP1 hD1
  have hP2 : va_P G.1 gcl ((gmw G ad h).set a1 (ad a1, gmc G ad (cI N f))) H1 := by
    intro j q hj
    by_cases hja : j = a1
    · subst hja
      have hlt : j < (gmw G ad h).length := (List.getElem?_eq_some_iff.mp (gmw_of (G := G) (ad := ad) h1)).1
      rw [List.getElem?_set_self hlt] at hj
      cases hj
      have h2 := hP1 j _ (List.getElem?_set_self hlt)
      show H1[ad j]? = some (arrV G.2.1 N (fun j => Value.int (f j)))
      rw [← grow_eq (g := g)]
      exact h2
    · rw [List.getElem?_set_ne (Ne.symm hja)] at hj
      exact hP1 j q (by rw [List.getElem?_set_ne (Ne.symm hja)]; exact hj)
  have hD2 : va_D A ((gmw G ad h).set a1 (ad a1, gmc G ad (cI N f))) := hD.set (gmw_of h1)
  exact k p la e s m args below meth c G ad0 A X H1 locs1 ad ls had hl (hP_set hP2) (hD_set hD2) hS1
/-- the same out of an outer row -/
theorem gW_copyX {i b a1 N : Nat} {n : Int32} {g : Nat → Int32} (hl0 : Cond.methodLink (gown K.1) i arraycopyName ∈ gTs) (hd : decode K.2.2.1 pc = .ok (.invokestatic i, 3)) (hbx : b < 4) (hNx : N = (gx sc b).1) (h1 : h[a1]? = some (cI N g)) (hn : n = nI N) (hN : N < 2 ^ 31) (hf : 1 ≤ R.frames) (hlo : (st.map fun v => v.category).sum + (nativeFrameWords "java/lang/System" "arraycopy" 5 + 11) ≤ R.locals)
    (k : gW K sc R n0 E cs ss (pc + 3) l st (h.set a1 (cI N (gx sc b).2))) : gW K sc R n0 E cs ss pc l (.int n :: .int 0 :: .ref a1 :: .int 0 :: .ref (1000 + b) :: st) h := by
  intro p la e s m args below meth c G ad0 A X H locs ad ls had hl hP hD hS
  obtain ⟨hx, hb, hml, hown, hts, hK, hamb, hA, -⟩ := id X
  have hcl : n.toNatClampNeg = N := by rw [hn]; exact nI_clamp hN
  have hz0 : (0 : Int32).toNatClampNeg = 0 := rfl
  have hn0 : ¬ n < 0 := by rw [hn]; exact nI_pos hN
  have had1 : ad (1000 + b) = ad0 (1000 + b) := had _ (Or.inr (Nat.le_add_right _ _))
  intro T hT Xs
  obtain ⟨row, r1, r2, r3, r4, -, r6, r7⟩ := hamb.2.1 b hbx
  rw [← hNx] at r4 r6
  have hc0 : H[ad0 (1000 + b)]? = some row := by rw [hS.2.1 _ (Array.getElem?_eq_some_iff.mp r1).1 r7]; exact r1
  have hc1 : H[ad a1]? = some (arrV G.2.1 N (fun j => Value.int (g j))) := hP a1 _ (gmw_of h1)
  obtain ⟨r20, ka, hka, cma, hkka⟩ := r2
  obtain ⟨-, kb, hkb, cmb, hkkb⟩ := (hK.2 0 _ rfl).1 N (fun j => .int (g j))
  have hsl : (arrV G.2.1 N (fun j => Value.int (g j))).slots.size = N := arrV_size ..
  have hnI := gint_nn hn0
  rw [hcl] at hnI
  have hzI : (0 : Int32).toInt = 0 := rfl
  obtain ⟨vm', X', step⟩ := Xs.arraycopy hx hown (hts _ hl0) (hts _ (gmem 139 (by decide +kernel))) (hts _ (gmem 138 (by decide +kernel))) (hts _ (gmem 76 (by decide +kernel))) (src := ad0 (1000 + b)) (dst := ad a1) (cs := row) (cd := arrV G.2.1 N (fun j => Value.int (g j))) (srcPos := 0) (destPos := 0) (n := n) (by rw [hT]; exact hc0) (by rw [hT]; exact hc1)
    r20 (fun _ h => by cases h) r3 (fun h => by cases h) hka hkb hkka hkkb (by simp [refKind]) (by decide) (by decide) hn0
    (by rw [hnI, hzI]; omega) (by rw [hnI, hzI, hsl]; omega)
    (fun vm₁ _ i hi => by
      rw [hcl] at hi
      have e1 : row.slots.getD ((0 : Int32).toNatClampNeg + i) .null = .int ((gx sc b).2 i) := by
        rw [hz0, Nat.zero_add, Array.getD_eq_getD_getElem?, r6 i hi]
        rfl
      rw [e1]
      exact ⟨rfl, trivial⟩)
    (g := F0 m pc ls ((Value.int n :: .int 0 :: .ref a1 :: .int 0 :: .ref (1000 + b) :: st).map (gmv ad))) rfl (by rw [hml]; exact hl.1) (rest := st.map (gmv ad)) (by rw [← had1]; rfl) (by rw [hb]; exact hd) hf (by show 2 * 0 + _ + _ ≤ _; rw [gcats]; omega)
  have e1 : copied row (arrV G.2.1 N (fun j => Value.int (g j))) 0 0 n = arrV G.2.1 N (fun j => Value.int ((gx sc b).2 j)) := by
    have h2 := va_copiedX (fun z => Value.int z) row G.2.1 (n1 := N) (n0 := N) (sp := 0) (dp := 0) (n := N) (gx sc b).2 g r6 (by omega)
    have h3 := h2.trans (grow_eq (c := G.2.1) (n := N) (f := (gx sc b).2) (g := g))
    show (arrV G.2.1 N (fun j => Value.int (g j))).storeRun (0 : Int32).toNatClampNeg (row.stretch (0 : Int32).toNatClampNeg n.toNatClampNeg) = _
    rw [hcl, hz0]
    exact h3
  rw [e1] at X' step
  have hlt : ad a1 < H.size := (Array.getElem?_eq_some_iff.mp hc1).1
  have hin : A (ad a1) := hD.2 a1 _ (gmw_of h1)
  have oq : ∀ (x : Cell) (q : Nat), q ≠ ad a1 → (H.setIfInBounds (ad a1) x)[q]? = H[q]? := fun x q hq => by simp [Array.getElem?_setIfInBounds, Ne.symm hq]
  have hP2 : va_P G.1 gcl ((gmw G ad h).set a1 (ad a1, gmc G ad (cI N (gx sc b).2))) (H.setIfInBounds (ad a1) (arrV G.2.1 N (fun j => Value.int ((gx sc b).2 j)))) :=
    hP.set hD (gmw_of h1) (show (H.setIfInBounds (ad a1) _)[ad a1]? = some _ by simp [Array.getElem?_setIfInBounds, hlt]; rfl) (oq _)
  have hD2 : va_D A ((gmw G ad h).set a1 (ad a1, gmc G ad (cI N (gx sc b).2))) := hD.set (gmw_of h1)
  obtain ⟨t, t1, t2⟩ := k p la e s m args below meth c G ad0 A X (H.setIfInBounds (ad a1) (arrV G.2.1 N (fun j => Value.int ((gx sc b).2 j)))) _ ad ls had hl (hP_set hP2) (hD_set hD2) ⟨by simp; exact hS.1, fun q g1 g2 => by
      rw [oq _ q (fun z => g2 (by rw [z]; exact hin))]
      exact hS.2.1 q g1 g2, fun q hq => by
      rcases List.mem_append.mp hq with h | h
      · exact hS.2.2 q h
      · obtain ⟨z, -, hz⟩ := List.mem_map.mp h
        rw [← hz]
        exact hin⟩ _ (by rw [← hT]; rfl) X'
  exact ⟨t, step t t1, t2⟩
end GY
end
section
/-! the static helpers of GoldSheets, and GoldSheets$Trays. Printed by wip/whole/meths1.py -/
def gFi (i : Nat) : Int32 := ([50, 120, 0, 2, 30, 10] : List Int32).getD i 0
def gLo (i : Nat) : Int32 := ([1, 10, 0, 0, 1, 0] : List Int32).getD i 0
def gHi (i : Nat) : Int32 := ([200, 500, 1, 9, 99, 99] : List Int32).getD i 0
def sum4 (f : Nat → Int32) : Int32 := 0 + f 0 + f 1 + f 2 + f 3

theorem m_valueAt (n i : Nat) (f : Nat → Int32) (hn : n ≤ 1000) (h : i < n) : gM K_Gs_valueAt { frames := 0, locals := 0, cells := 0, slots := 0 } [.ref 0, .int (nI i)] ([cI n f]) (gD (.inl (some (.int (f i)))) ([cI n f])) := by
  refine gM_of rfl rfl (Nat.le_of_ble_eq_true rfl) (fun sc => ?_)
  refine gW_b D_Gs_valueAt 0 1 (pc' := 1) (l' := [(0, .ref 0), (1, .int (nI i))]) (st' := [.int (nI i)]) (h' := [cI n f]) (P := True) rfl trivial ?_
  refine gW_if_lt (gdec_at D_Gs_valueAt 1 rfl) (tgt := 16) rfl (fun c => absurd c (nI_pos (n := i) (by omega))) (fun _ => ?_)
  refine gW_b D_Gs_valueAt 2 3 (pc' := 7) (l' := [(0, .ref 0), (1, .int (nI i))]) (st' := [.int (nI n), .int (nI i)]) (h' := [cI n f]) (P := True) rfl trivial ?_
  refine gW_ic_ge (gdec_at D_Gs_valueAt 5 rfl) (tgt := 16) rfl (fun c => absurd c (mt (gle (rfl : nI n = nI n) (rfl : nI i = nI i) (by omega) (by omega)).mp (by omega))) (fun _ => ?_)
  refine gW_b D_Gs_valueAt 6 4 (pc' := 17) (l' := [(0, .ref 0), (1, .int (nI i))]) (st' := [.int (f ((nI i).toNatClampNeg))]) (h' := [cI n f]) (P := vp_in (nI i) n ∧ True) rfl ⟨(gvin (rfl : nI i = nI i) (by omega) (by omega)), trivial⟩ ?_
  rw [show (nI i).toNatClampNeg = i from gclp (rfl : nI i = nI i) (by omega)]
  exact gW_iret (gdec_at D_Gs_valueAt 11 rfl) rfl rfl (Nat.le_of_ble_eq_true rfl) ⟨rfl, rfl⟩ (Nat.le_of_ble_eq_true rfl) (Nat.le_of_ble_eq_true rfl)

theorem m_valueLo (i : Nat) (h : i < 6) : gM K_Gs_valueAt { frames := 0, locals := 0, cells := 0, slots := 0 } [.ref 1002, .int (nI i)] ([]) (gD (.inl (some (.int (gLo i)))) ([])) := by
  refine gM_of rfl rfl (Nat.le_of_ble_eq_true rfl) (fun sc => ?_)
  refine gW_b D_Gs_valueAt 0 1 (pc' := 1) (l' := [(0, .ref 1002), (1, .int (nI i))]) (st' := [.int (nI i)]) (h' := []) (P := True) rfl trivial ?_
  refine gW_if_lt (gdec_at D_Gs_valueAt 1 rfl) (tgt := 16) rfl (fun c => absurd c (nI_pos (n := i) (by omega))) (fun _ => ?_)
  refine gW_b D_Gs_valueAt 2 3 (pc' := 7) (l' := [(0, .ref 1002), (1, .int (nI i))]) (st' := [.int 6, .int (nI i)]) (h' := []) (P := True) rfl trivial ?_
  refine gW_ic_ge (gdec_at D_Gs_valueAt 5 rfl) (tgt := 16) rfl (fun c => absurd c (mt (gle (gk 6) (rfl : nI i = nI i) (by omega) (by omega)).mp (by omega))) (fun _ => ?_)
  refine gW_b D_Gs_valueAt 6 4 (pc' := 17) (l' := [(0, .ref 1002), (1, .int (nI i))]) (st' := [.int (gLo (nI i).toNatClampNeg)]) (h' := []) (P := vp_in (nI i) 6 ∧ True) rfl ⟨(gvin (rfl : nI i = nI i) (by omega) (by omega)), trivial⟩ ?_
  rw [show (nI i).toNatClampNeg = i from gclp (rfl : nI i = nI i) (by omega)]
  exact gW_iret (gdec_at D_Gs_valueAt 11 rfl) rfl rfl (Nat.le_of_ble_eq_true rfl) ⟨rfl, rfl⟩ (Nat.le_of_ble_eq_true rfl) (Nat.le_of_ble_eq_true rfl)

theorem m_valueHi (i : Nat) (h : i < 6) : gM K_Gs_valueAt { frames := 0, locals := 0, cells := 0, slots := 0 } [.ref 1003, .int (nI i)] ([]) (gD (.inl (some (.int (gHi i)))) ([])) := by
  refine gM_of rfl rfl (Nat.le_of_ble_eq_true rfl) (fun sc => ?_)
  refine gW_b D_Gs_valueAt 0 1 (pc' := 1) (l' := [(0, .ref 1003), (1, .int (nI i))]) (st' := [.int (nI i)]) (h' := []) (P := True) rfl trivial ?_
  refine gW_if_lt (gdec_at D_Gs_valueAt 1 rfl) (tgt := 16) rfl (fun c => absurd c (nI_pos (n := i) (by omega))) (fun _ => ?_)
  refine gW_b D_Gs_valueAt 2 3 (pc' := 7) (l' := [(0, .ref 1003), (1, .int (nI i))]) (st' := [.int 6, .int (nI i)]) (h' := []) (P := True) rfl trivial ?_
  refine gW_ic_ge (gdec_at D_Gs_valueAt 5 rfl) (tgt := 16) rfl (fun c => absurd c (mt (gle (gk 6) (rfl : nI i = nI i) (by omega) (by omega)).mp (by omega))) (fun _ => ?_)
  refine gW_b D_Gs_valueAt 6 4 (pc' := 17) (l' := [(0, .ref 1003), (1, .int (nI i))]) (st' := [.int (gHi (nI i).toNatClampNeg)]) (h' := []) (P := vp_in (nI i) 6 ∧ True) rfl ⟨(gvin (rfl : nI i = nI i) (by omega) (by omega)), trivial⟩ ?_
  rw [show (nI i).toNatClampNeg = i from gclp (rfl : nI i = nI i) (by omega)]
  exact gW_iret (gdec_at D_Gs_valueAt 11 rfl) rfl rfl (Nat.le_of_ble_eq_true rfl) ⟨rfl, rfl⟩ (Nat.le_of_ble_eq_true rfl) (Nat.le_of_ble_eq_true rfl)

theorem m_addAt (n i : Nat) (f : Nat → Int32) (v : Int32) (hn : n ≤ 1000) (h : i < n) : gM K_Gs_addAt { frames := 0, locals := 0, cells := 0, slots := 0 } [.ref 0, .int (nI i), .int v] ([cI n f]) (gD (.inl none) ([cI n (upd f i (f i + v))])) := by
  refine gM_of rfl rfl (Nat.le_of_ble_eq_true rfl) (fun sc => ?_)
  refine gW_b D_Gs_addAt 0 1 (pc' := 1) (l' := [(0, .ref 0), (1, .int (nI i)), (2, .int v)]) (st' := [.int (nI i)]) (h' := [cI n f]) (P := True) rfl trivial ?_
  refine gW_if_lt (gdec_at D_Gs_addAt 1 rfl) (tgt := 17) rfl (fun c => absurd c (nI_pos (n := i) (by omega))) (fun _ => ?_)
  refine gW_b D_Gs_addAt 2 3 (pc' := 7) (l' := [(0, .ref 0), (1, .int (nI i)), (2, .int v)]) (st' := [.int (nI n), .int (nI i)]) (h' := [cI n f]) (P := True) rfl trivial ?_
  refine gW_ic_ge (gdec_at D_Gs_addAt 5 rfl) (tgt := 17) rfl (fun c => absurd c (mt (gle (rfl : nI n = nI n) (rfl : nI i = nI i) (by omega) (by omega)).mp (by omega))) (fun _ => ?_)
  refine gW_b D_Gs_addAt 6 7 (pc' := 17) (l' := [(0, .ref 0), (1, .int (nI i)), (2, .int v)]) (st' := []) (h' := [cI n (upd f ((nI i).toNatClampNeg) ((f ((nI i).toNatClampNeg)) + v))]) (P := vp_in (nI i) n ∧ vp_in (nI i) n ∧ True) rfl ⟨(gvin (rfl : nI i = nI i) (by omega) (by omega)), (gvin (rfl : nI i = nI i) (by omega) (by omega)), trivial⟩ ?_
  rw [show (nI i).toNatClampNeg = i from gclp (rfl : nI i = nI i) (by omega)]
  exact gW_vret (gdec_at D_Gs_addAt 13 rfl) rfl (Nat.le_of_ble_eq_true rfl) ⟨rfl, rfl⟩ (Nat.le_of_ble_eq_true rfl) (Nat.le_of_ble_eq_true rfl)

theorem m_sumOf (f : Nat → Int32) : gM K_Gs_sumOf { frames := 0, locals := 0, cells := 0, slots := 0 } [.ref 0] ([cI 4 f]) (gD (.inl (some (.int (sum4 f)))) ([cI 4 f])) := by
  refine gM_of rfl rfl (Nat.le_of_ble_eq_true rfl) (fun sc => ?_)
  refine gW_b D_Gs_sumOf 0 11 (pc' := 13) (l' := [(0, .ref 0), (1, .int 0), (2, .ref 0), (3, .int 4), (4, .int 0)]) (st' := [.int 4, .int 0]) (h' := [cI 4 f]) (P := True) rfl trivial ?_
  refine gW_ic_ge (gdec_at D_Gs_sumOf 11 rfl) (tgt := 33) rfl (fun c => absurd c (by decide)) (fun _ => ?_)
  refine gW_b D_Gs_sumOf 12 10 (pc' := 10) (l' := [(0, .ref 0), (1, .int (0 + (f 0))), (2, .ref 0), (3, .int 4), (4, .int 1), (5, .int (f 0))]) (st' := []) (h' := [cI 4 f]) (P := vp_in 0 4 ∧ True) rfl ⟨(gvl 0 4 (by omega) (by omega)), trivial⟩ ?_
  refine gW_b D_Gs_sumOf 9 2 (pc' := 13) (l' := [(0, .ref 0), (1, .int (0 + (f 0))), (2, .ref 0), (3, .int 4), (4, .int 1), (5, .int (f 0))]) (st' := [.int 4, .int 1]) (h' := [cI 4 f]) (P := True) rfl trivial ?_
  refine gW_ic_ge (gdec_at D_Gs_sumOf 11 rfl) (tgt := 33) rfl (fun c => absurd c (by decide)) (fun _ => ?_)
  refine gW_b D_Gs_sumOf 12 10 (pc' := 10) (l' := [(0, .ref 0), (1, .int ((0 + (f 0)) + (f 1))), (2, .ref 0), (3, .int 4), (4, .int 2), (5, .int (f 1))]) (st' := []) (h' := [cI 4 f]) (P := vp_in 1 4 ∧ True) rfl ⟨(gvl 1 4 (by omega) (by omega)), trivial⟩ ?_
  refine gW_b D_Gs_sumOf 9 2 (pc' := 13) (l' := [(0, .ref 0), (1, .int ((0 + (f 0)) + (f 1))), (2, .ref 0), (3, .int 4), (4, .int 2), (5, .int (f 1))]) (st' := [.int 4, .int 2]) (h' := [cI 4 f]) (P := True) rfl trivial ?_
  refine gW_ic_ge (gdec_at D_Gs_sumOf 11 rfl) (tgt := 33) rfl (fun c => absurd c (by decide)) (fun _ => ?_)
  refine gW_b D_Gs_sumOf 12 10 (pc' := 10) (l' := [(0, .ref 0), (1, .int (((0 + (f 0)) + (f 1)) + (f 2))), (2, .ref 0), (3, .int 4), (4, .int 3), (5, .int (f 2))]) (st' := []) (h' := [cI 4 f]) (P := vp_in 2 4 ∧ True) rfl ⟨(gvl 2 4 (by omega) (by omega)), trivial⟩ ?_
  refine gW_b D_Gs_sumOf 9 2 (pc' := 13) (l' := [(0, .ref 0), (1, .int (((0 + (f 0)) + (f 1)) + (f 2))), (2, .ref 0), (3, .int 4), (4, .int 3), (5, .int (f 2))]) (st' := [.int 4, .int 3]) (h' := [cI 4 f]) (P := True) rfl trivial ?_
  refine gW_ic_ge (gdec_at D_Gs_sumOf 11 rfl) (tgt := 33) rfl (fun c => absurd c (by decide)) (fun _ => ?_)
  refine gW_b D_Gs_sumOf 12 10 (pc' := 10) (l' := [(0, .ref 0), (1, .int ((((0 + (f 0)) + (f 1)) + (f 2)) + (f 3))), (2, .ref 0), (3, .int 4), (4, .int 4), (5, .int (f 3))]) (st' := []) (h' := [cI 4 f]) (P := vp_in 3 4 ∧ True) rfl ⟨(gvl 3 4 (by omega) (by omega)), trivial⟩ ?_
  refine gW_b D_Gs_sumOf 9 2 (pc' := 13) (l' := [(0, .ref 0), (1, .int ((((0 + (f 0)) + (f 1)) + (f 2)) + (f 3))), (2, .ref 0), (3, .int 4), (4, .int 4), (5, .int (f 3))]) (st' := [.int 4, .int 4]) (h' := [cI 4 f]) (P := True) rfl trivial ?_
  refine gW_ic_ge (gdec_at D_Gs_sumOf 11 rfl) (tgt := 33) rfl (fun _ => ?_) (fun c => absurd (by decide) c)
  refine gW_b D_Gs_sumOf 22 1 (pc' := 34) (l' := [(0, .ref 0), (1, .int ((((0 + (f 0)) + (f 1)) + (f 2)) + (f 3))), (2, .ref 0), (3, .int 4), (4, .int 4), (5, .int (f 3))]) (st' := [.int ((((0 + (f 0)) + (f 1)) + (f 2)) + (f 3))]) (h' := [cI 4 f]) (P := True) rfl trivial ?_
  exact gW_iret (gdec_at D_Gs_sumOf 23 rfl) rfl rfl (Nat.le_of_ble_eq_true rfl) ⟨rfl, rfl⟩ (Nat.le_of_ble_eq_true rfl) (Nat.le_of_ble_eq_true rfl)

theorem m_copyRow (n : Nat) (f g : Nat → Int32) (hn : n ≤ 1000) : gM K_Gs_copyRow { frames := 1, locals := 40, cells := 0, slots := 0 } [.ref 0, .ref 1] ([cI n f, cI n g]) (gD (.inl none) ([cI n f, cI n f])) := by
  refine gM_of rfl rfl (Nat.le_of_ble_eq_true rfl) (fun sc => ?_)
  refine gW_b D_Gs_copyRow 0 8 (pc' := 8) (l' := [(0, .ref 0), (1, .ref 1)]) (st' := [.int (nI n), .int (nI n), .int 0, .ref 1, .int 0, .ref 0]) (h' := [cI n f, cI n g]) (P := True) rfl trivial ?_
  refine gW_min (gmem 134 (by decide +kernel)) (gdec_at D_Gs_copyRow 8 rfl) (Nat.le_of_ble_eq_true rfl) (Nat.le_of_ble_eq_true rfl) (Nat.le_of_ble_eq_true rfl) (Nat.le_of_ble_eq_true rfl) ?_
  rw [show (if nI n < nI n then nI n else nI n : Int32) = nI n from (if_neg Int32.lt_irrefl)]
  refine gW_copy (gmem 137 (by decide +kernel)) (gdec_at D_Gs_copyRow 9 rfl) rfl rfl rfl (by omega) (Nat.le_of_ble_eq_true rfl) (Nat.le_of_ble_eq_true rfl) ?_
  exact gW_vret (gdec_at D_Gs_copyRow 10 rfl) rfl (Nat.le_of_ble_eq_true rfl) ⟨rfl, rfl⟩ (Nat.le_of_ble_eq_true rfl) (Nat.le_of_ble_eq_true rfl)

theorem m_copyFi (g : Nat → Int32) : gM K_Gs_copyRow { frames := 1, locals := 40, cells := 0, slots := 0 } [.ref 1001, .ref 0] ([cI 6 g]) (gD (.inl none) ([cI 6 gFi])) := by
  refine gM_of rfl rfl (Nat.le_of_ble_eq_true rfl) (fun sc => ?_)
  refine gW_b D_Gs_copyRow 0 8 (pc' := 8) (l' := [(0, .ref 1001), (1, .ref 0)]) (st' := [.int 6, .int 6, .int 0, .ref 0, .int 0, .ref 1001]) (h' := [cI 6 g]) (P := True) rfl trivial ?_
  refine gW_min (gmem 134 (by decide +kernel)) (gdec_at D_Gs_copyRow 8 rfl) (Nat.le_of_ble_eq_true rfl) (Nat.le_of_ble_eq_true rfl) (Nat.le_of_ble_eq_true rfl) (Nat.le_of_ble_eq_true rfl) ?_
  rw [show (if (6 : Int32) < (6 : Int32) then (6 : Int32) else (6 : Int32) : Int32) = 6 from (if_neg Int32.lt_irrefl)]
  refine gW_copyX (b := 1) (N := 6) (gmem 137 (by decide +kernel)) (gdec_at D_Gs_copyRow 9 rfl) (by decide) rfl rfl rfl (by decide) (Nat.le_of_ble_eq_true rfl) (Nat.le_of_ble_eq_true rfl) ?_
  exact gW_vret (gdec_at D_Gs_copyRow 10 rfl) rfl (Nat.le_of_ble_eq_true rfl) ⟨rfl, rfl⟩ (Nat.le_of_ble_eq_true rfl) (Nat.le_of_ble_eq_true rfl)
abbrev cTr (f : Nat → Int32) : gH := [cO 0 [.ref 1], cI 24 f]

theorem m_held (f : Nat → Int32) (a t : Nat) (ha : a < 6) (ht : t < 4) : gM K_Tr_held { frames := 0, locals := 0, cells := 0, slots := 0 } [.ref 0, .int (nI a), .int (nI t)] (cTr f) (gD (.inl (some (.int (f (a * 4 + t))))) (cTr f)) := by
  refine gM_of rfl rfl (Nat.le_of_ble_eq_true rfl) (fun sc => ?_)
  refine gW_b D_Tr_held 0 1 (pc' := 1) (l' := [(0, .ref 0), (1, .int (nI a)), (2, .int (nI t))]) (st' := [.int (nI a)]) (h' := cTr f) (P := True) rfl trivial ?_
  refine gW_if_lt (gdec_at D_Tr_held 1 rfl) (tgt := 23) rfl (fun c => absurd c (nI_pos (n := a) (by omega))) (fun _ => ?_)
  refine gW_b D_Tr_held 2 2 (pc' := 7) (l' := [(0, .ref 0), (1, .int (nI a)), (2, .int (nI t))]) (st' := [.int 6, .int (nI a)]) (h' := cTr f) (P := True) rfl trivial ?_
  refine gW_ic_ge (gdec_at D_Tr_held 4 rfl) (tgt := 23) rfl (fun c => absurd c (mt (gle (gk 6) (rfl : nI a = nI a) (by omega) (by omega)).mp (by omega))) (fun _ => ?_)
  refine gW_b D_Tr_held 5 1 (pc' := 11) (l' := [(0, .ref 0), (1, .int (nI a)), (2, .int (nI t))]) (st' := [.int (nI t)]) (h' := cTr f) (P := True) rfl trivial ?_
  refine gW_if_lt (gdec_at D_Tr_held 6 rfl) (tgt := 23) rfl (fun c => absurd c (nI_pos (n := t) (by omega))) (fun _ => ?_)
  refine gW_b D_Tr_held 7 2 (pc' := 16) (l' := [(0, .ref 0), (1, .int (nI a)), (2, .int (nI t))]) (st' := [.int 4, .int (nI t)]) (h' := cTr f) (P := True) rfl trivial ?_
  refine gW_ic_ge (gdec_at D_Tr_held 9 rfl) (tgt := 23) rfl (fun c => absurd c (mt (gle (gk 4) (rfl : nI t = nI t) (by omega) (by omega)).mp (by omega))) (fun _ => ?_)
  refine gW_b D_Tr_held 10 2 (pc' := 24) (l' := [(0, .ref 0), (1, .int (nI a)), (2, .int (nI t))]) (st' := [.int 1]) (h' := cTr f) (P := True) rfl trivial ?_
  refine gW_b D_Tr_held 13 2 (pc' := 26) (l' := [(0, .ref 0), (1, .int (nI a)), (2, .int (nI t)), (3, .int 1)]) (st' := [.int 1]) (h' := cTr f) (P := True) rfl trivial ?_
  refine gW_if_eq (gdec_at D_Tr_held 15 rfl) (tgt := 42) rfl (fun c => absurd c (by decide)) (fun _ => ?_)
  refine gW_b D_Tr_held 16 9 (pc' := 43) (l' := [(0, .ref 0), (1, .int (nI a)), (2, .int (nI t)), (3, .int 1)]) (st' := [.int (f ((((nI a) * 4) + (nI t)).toNatClampNeg))]) (h' := cTr f) (P := vp_in (((nI a) * 4) + (nI t)) 24 ∧ True) rfl ⟨(gvin (gadd (gmul (rfl : nI a = nI a) (gk 4)) (rfl : nI t = nI t)) (by omega) (by omega)), trivial⟩ ?_
  rw [show (((nI a) * 4) + (nI t)).toNatClampNeg = ((a * 4) + t) from gclp (gadd (gmul (rfl : nI a = nI a) (gk 4)) (rfl : nI t = nI t)) (by omega)]
  exact gW_iret (gdec_at D_Tr_held 26 rfl) rfl rfl (Nat.le_of_ble_eq_true rfl) ⟨rfl, rfl⟩ (Nat.le_of_ble_eq_true rfl) (Nat.le_of_ble_eq_true rfl)

theorem m_change (f : Nat → Int32) (a t : Nat) (v : Int32) (ha : a < 6) (ht : t < 4) : gM K_Tr_change { frames := 0, locals := 0, cells := 0, slots := 0 } [.ref 0, .int (nI a), .int (nI t), .int v] (cTr f) (gD (.inl none) (cTr (upd f (a * 4 + t) (f (a * 4 + t) + v)))) := by
  refine gM_of rfl rfl (Nat.le_of_ble_eq_true rfl) (fun sc => ?_)
  refine gW_b D_Tr_change 0 1 (pc' := 1) (l' := [(0, .ref 0), (1, .int (nI a)), (2, .int (nI t)), (3, .int v)]) (st' := [.int (nI a)]) (h' := cTr f) (P := True) rfl trivial ?_
  refine gW_if_lt (gdec_at D_Tr_change 1 rfl) (tgt := 33) rfl (fun c => absurd c (nI_pos (n := a) (by omega))) (fun _ => ?_)
  refine gW_b D_Tr_change 2 2 (pc' := 7) (l' := [(0, .ref 0), (1, .int (nI a)), (2, .int (nI t)), (3, .int v)]) (st' := [.int 6, .int (nI a)]) (h' := cTr f) (P := True) rfl trivial ?_
  refine gW_ic_ge (gdec_at D_Tr_change 4 rfl) (tgt := 33) rfl (fun c => absurd c (mt (gle (gk 6) (rfl : nI a = nI a) (by omega) (by omega)).mp (by omega))) (fun _ => ?_)
  refine gW_b D_Tr_change 5 1 (pc' := 11) (l' := [(0, .ref 0), (1, .int (nI a)), (2, .int (nI t)), (3, .int v)]) (st' := [.int (nI t)]) (h' := cTr f) (P := True) rfl trivial ?_
  refine gW_if_lt (gdec_at D_Tr_change 6 rfl) (tgt := 33) rfl (fun c => absurd c (nI_pos (n := t) (by omega))) (fun _ => ?_)
  refine gW_b D_Tr_change 7 2 (pc' := 16) (l' := [(0, .ref 0), (1, .int (nI a)), (2, .int (nI t)), (3, .int v)]) (st' := [.int 4, .int (nI t)]) (h' := cTr f) (P := True) rfl trivial ?_
  refine gW_ic_ge (gdec_at D_Tr_change 9 rfl) (tgt := 33) rfl (fun c => absurd c (mt (gle (gk 4) (rfl : nI t = nI t) (by omega) (by omega)).mp (by omega))) (fun _ => ?_)
  refine gW_b D_Tr_change 10 12 (pc' := 33) (l' := [(0, .ref 0), (1, .int (nI a)), (2, .int (nI t)), (3, .int v)]) (st' := []) (h' := cTr (upd f ((((nI a) * 4) + (nI t)).toNatClampNeg) ((f ((((nI a) * 4) + (nI t)).toNatClampNeg)) + v))) (P := vp_in (((nI a) * 4) + (nI t)) 24 ∧ vp_in (((nI a) * 4) + (nI t)) 24 ∧ True) rfl ⟨(gvin (gadd (gmul (rfl : nI a = nI a) (gk 4)) (rfl : nI t = nI t)) (by omega) (by omega)), (gvin (gadd (gmul (rfl : nI a = nI a) (gk 4)) (rfl : nI t = nI t)) (by omega) (by omega)), trivial⟩ ?_
  rw [show (((nI a) * 4) + (nI t)).toNatClampNeg = ((a * 4) + t) from gclp (gadd (gmul (rfl : nI a = nI a) (gk 4)) (rfl : nI t = nI t)) (by omega)]
  exact gW_vret (gdec_at D_Tr_change 22 rfl) rfl (Nat.le_of_ble_eq_true rfl) ⟨rfl, rfl⟩ (Nat.le_of_ble_eq_true rfl) (Nat.le_of_ble_eq_true rfl)
def hA (f : Nat → Int32) (a : Nat) : Int32 := 0 + f (a * 4 + 0) + f (a * 4 + 1) + f (a * 4 + 2) + f (a * 4 + 3)

theorem m_heldInAll (f : Nat → Int32) (a : Nat) (ha : a < 6) : gM K_Tr_heldInAll { frames := 1, locals := 23, cells := 0, slots := 0 } [.ref 0, .int (nI a)] (cTr f) (gD (.inl (some (.int (hA f a)))) (cTr f)) := by
  refine gM_of rfl rfl (Nat.le_of_ble_eq_true rfl) (fun sc => ?_)
  refine gW_b D_Tr_heldInAll 0 6 (pc' := 6) (l' := [(0, .ref 0), (1, .int (nI a)), (2, .int 0), (3, .int 0)]) (st' := [.int 4, .int 0]) (h' := cTr f) (P := True) rfl trivial ?_
  refine gW_ic_ge (gdec_at D_Tr_heldInAll 6 rfl) (tgt := 24) rfl (fun c => absurd c (by decide)) (fun _ => ?_)
  refine gW_b D_Tr_heldInAll 7 4 (pc' := 13) (l' := [(0, .ref 0), (1, .int (nI a)), (2, .int 0), (3, .int 0)]) (st' := [.int 0, .int (nI a), .ref 0, .int 0]) (h' := cTr f) (P := True) rfl trivial ?_
  refine gW_callV (m_held f a 0 (by omega) (by omega)) lk_Tr_19 [0, 1] (gdec_at D_Tr_heldInAll 11 rfl) (st := [.int 0]) rfl rfl ⟨rfl, rfl⟩ (Nat.le_of_ble_eq_true rfl) rfl (by decide) rfl (Nat.le_of_ble_eq_true rfl) ⟨Nat.le_of_ble_eq_true rfl, Nat.le_of_ble_eq_true rfl⟩ ⟨Nat.le_of_ble_eq_true rfl, Nat.le_of_ble_eq_true rfl⟩ (gAft_r rfl rfl (h' := cTr f) (st' := [.int (f (a * 4 + 0)), .int 0]) (pc' := 16) (cs' := 0) (ss' := 0) rfl rfl rfl rfl rfl ?_)
  refine gW_b D_Tr_heldInAll 12 4 (pc' := 4) (l' := [(0, .ref 0), (1, .int (nI a)), (2, .int (0 + (f (a * 4 + 0)))), (3, .int 1)]) (st' := []) (h' := cTr f) (P := True) rfl trivial ?_
  refine gW_b D_Tr_heldInAll 4 2 (pc' := 6) (l' := [(0, .ref 0), (1, .int (nI a)), (2, .int (0 + (f (a * 4 + 0)))), (3, .int 1)]) (st' := [.int 4, .int 1]) (h' := cTr f) (P := True) rfl trivial ?_
  refine gW_ic_ge (gdec_at D_Tr_heldInAll 6 rfl) (tgt := 24) rfl (fun c => absurd c (by decide)) (fun _ => ?_)
  refine gW_b D_Tr_heldInAll 7 4 (pc' := 13) (l' := [(0, .ref 0), (1, .int (nI a)), (2, .int (0 + (f (a * 4 + 0)))), (3, .int 1)]) (st' := [.int 1, .int (nI a), .ref 0, .int (0 + (f (a * 4 + 0)))]) (h' := cTr f) (P := True) rfl trivial ?_
  refine gW_callV (m_held f a 1 (by omega) (by omega)) lk_Tr_19 [0, 1] (gdec_at D_Tr_heldInAll 11 rfl) (st := [.int (0 + (f (a * 4 + 0)))]) rfl rfl ⟨rfl, rfl⟩ (Nat.le_of_ble_eq_true rfl) rfl (by decide) rfl (Nat.le_of_ble_eq_true rfl) ⟨Nat.le_of_ble_eq_true rfl, Nat.le_of_ble_eq_true rfl⟩ ⟨Nat.le_of_ble_eq_true rfl, Nat.le_of_ble_eq_true rfl⟩ (gAft_r rfl rfl (h' := cTr f) (st' := [.int (f (a * 4 + 1)), .int (0 + (f (a * 4 + 0)))]) (pc' := 16) (cs' := 0) (ss' := 0) rfl rfl rfl rfl rfl ?_)
  refine gW_b D_Tr_heldInAll 12 4 (pc' := 4) (l' := [(0, .ref 0), (1, .int (nI a)), (2, .int ((0 + (f (a * 4 + 0))) + (f (a * 4 + 1)))), (3, .int 2)]) (st' := []) (h' := cTr f) (P := True) rfl trivial ?_
  refine gW_b D_Tr_heldInAll 4 2 (pc' := 6) (l' := [(0, .ref 0), (1, .int (nI a)), (2, .int ((0 + (f (a * 4 + 0))) + (f (a * 4 + 1)))), (3, .int 2)]) (st' := [.int 4, .int 2]) (h' := cTr f) (P := True) rfl trivial ?_
  refine gW_ic_ge (gdec_at D_Tr_heldInAll 6 rfl) (tgt := 24) rfl (fun c => absurd c (by decide)) (fun _ => ?_)
  refine gW_b D_Tr_heldInAll 7 4 (pc' := 13) (l' := [(0, .ref 0), (1, .int (nI a)), (2, .int ((0 + (f (a * 4 + 0))) + (f (a * 4 + 1)))), (3, .int 2)]) (st' := [.int 2, .int (nI a), .ref 0, .int ((0 + (f (a * 4 + 0))) + (f (a * 4 + 1)))]) (h' := cTr f) (P := True) rfl trivial ?_
  refine gW_callV (m_held f a 2 (by omega) (by omega)) lk_Tr_19 [0, 1] (gdec_at D_Tr_heldInAll 11 rfl) (st := [.int ((0 + (f (a * 4 + 0))) + (f (a * 4 + 1)))]) rfl rfl ⟨rfl, rfl⟩ (Nat.le_of_ble_eq_true rfl) rfl (by decide) rfl (Nat.le_of_ble_eq_true rfl) ⟨Nat.le_of_ble_eq_true rfl, Nat.le_of_ble_eq_true rfl⟩ ⟨Nat.le_of_ble_eq_true rfl, Nat.le_of_ble_eq_true rfl⟩ (gAft_r rfl rfl (h' := cTr f) (st' := [.int (f (a * 4 + 2)), .int ((0 + (f (a * 4 + 0))) + (f (a * 4 + 1)))]) (pc' := 16) (cs' := 0) (ss' := 0) rfl rfl rfl rfl rfl ?_)
  refine gW_b D_Tr_heldInAll 12 4 (pc' := 4) (l' := [(0, .ref 0), (1, .int (nI a)), (2, .int (((0 + (f (a * 4 + 0))) + (f (a * 4 + 1))) + (f (a * 4 + 2)))), (3, .int 3)]) (st' := []) (h' := cTr f) (P := True) rfl trivial ?_
  refine gW_b D_Tr_heldInAll 4 2 (pc' := 6) (l' := [(0, .ref 0), (1, .int (nI a)), (2, .int (((0 + (f (a * 4 + 0))) + (f (a * 4 + 1))) + (f (a * 4 + 2)))), (3, .int 3)]) (st' := [.int 4, .int 3]) (h' := cTr f) (P := True) rfl trivial ?_
  refine gW_ic_ge (gdec_at D_Tr_heldInAll 6 rfl) (tgt := 24) rfl (fun c => absurd c (by decide)) (fun _ => ?_)
  refine gW_b D_Tr_heldInAll 7 4 (pc' := 13) (l' := [(0, .ref 0), (1, .int (nI a)), (2, .int (((0 + (f (a * 4 + 0))) + (f (a * 4 + 1))) + (f (a * 4 + 2)))), (3, .int 3)]) (st' := [.int 3, .int (nI a), .ref 0, .int (((0 + (f (a * 4 + 0))) + (f (a * 4 + 1))) + (f (a * 4 + 2)))]) (h' := cTr f) (P := True) rfl trivial ?_
  refine gW_callV (m_held f a 3 (by omega) (by omega)) lk_Tr_19 [0, 1] (gdec_at D_Tr_heldInAll 11 rfl) (st := [.int (((0 + (f (a * 4 + 0))) + (f (a * 4 + 1))) + (f (a * 4 + 2)))]) rfl rfl ⟨rfl, rfl⟩ (Nat.le_of_ble_eq_true rfl) rfl (by decide) rfl (Nat.le_of_ble_eq_true rfl) ⟨Nat.le_of_ble_eq_true rfl, Nat.le_of_ble_eq_true rfl⟩ ⟨Nat.le_of_ble_eq_true rfl, Nat.le_of_ble_eq_true rfl⟩ (gAft_r rfl rfl (h' := cTr f) (st' := [.int (f (a * 4 + 3)), .int (((0 + (f (a * 4 + 0))) + (f (a * 4 + 1))) + (f (a * 4 + 2)))]) (pc' := 16) (cs' := 0) (ss' := 0) rfl rfl rfl rfl rfl ?_)
  refine gW_b D_Tr_heldInAll 12 4 (pc' := 4) (l' := [(0, .ref 0), (1, .int (nI a)), (2, .int ((((0 + (f (a * 4 + 0))) + (f (a * 4 + 1))) + (f (a * 4 + 2))) + (f (a * 4 + 3)))), (3, .int 4)]) (st' := []) (h' := cTr f) (P := True) rfl trivial ?_
  refine gW_b D_Tr_heldInAll 4 2 (pc' := 6) (l' := [(0, .ref 0), (1, .int (nI a)), (2, .int ((((0 + (f (a * 4 + 0))) + (f (a * 4 + 1))) + (f (a * 4 + 2))) + (f (a * 4 + 3)))), (3, .int 4)]) (st' := [.int 4, .int 4]) (h' := cTr f) (P := True) rfl trivial ?_
  refine gW_ic_ge (gdec_at D_Tr_heldInAll 6 rfl) (tgt := 24) rfl (fun _ => ?_) (fun c => absurd (by decide) c)
  refine gW_b D_Tr_heldInAll 16 1 (pc' := 25) (l' := [(0, .ref 0), (1, .int (nI a)), (2, .int ((((0 + (f (a * 4 + 0))) + (f (a * 4 + 1))) + (f (a * 4 + 2))) + (f (a * 4 + 3)))), (3, .int 4)]) (st' := [.int ((((0 + (f (a * 4 + 0))) + (f (a * 4 + 1))) + (f (a * 4 + 2))) + (f (a * 4 + 3)))]) (h' := cTr f) (P := True) rfl trivial ?_
  exact gW_iret (gdec_at D_Tr_heldInAll 17 rfl) rfl rfl (Nat.le_of_ble_eq_true rfl) ⟨rfl, rfl⟩ (Nat.le_of_ble_eq_true rfl) (Nat.le_of_ble_eq_true rfl)
def frI (f : Nat → Int32) (a : Nat) (r : Int32) : Int32 := if 0 < r - hA f a then r - hA f a else 0

theorem m_freeIn (f : Nat → Int32) (a : Nat) (r : Int32) (ha : a < 6) : gM K_Tr_freeIn { frames := 2, locals := 46, cells := 0, slots := 0 } [.ref 0, .int (nI a), .int r] (cTr f) (gD (.inl (some (.int (frI f a r)))) (cTr f)) := by
  refine gM_of rfl rfl (Nat.le_of_ble_eq_true rfl) (fun sc => ?_)
  refine gW_b D_Tr_freeIn 0 4 (pc' := 4) (l' := [(0, .ref 0), (1, .int (nI a)), (2, .int r)]) (st' := [.int (nI a), .ref 0, .int r, .int 0]) (h' := cTr f) (P := True) rfl trivial ?_
  refine gW_callV (m_heldInAll f a (by omega)) lk_Tr_23 [0, 1] (gdec_at D_Tr_freeIn 4 rfl) (st := [.int r, .int 0]) rfl rfl ⟨rfl, rfl⟩ (Nat.le_of_ble_eq_true rfl) rfl (by decide) rfl (Nat.le_of_ble_eq_true rfl) ⟨Nat.le_of_ble_eq_true rfl, Nat.le_of_ble_eq_true rfl⟩ ⟨Nat.le_of_ble_eq_true rfl, Nat.le_of_ble_eq_true rfl⟩ (gAft_r rfl rfl (h' := cTr f) (st' := [.int (hA f a), .int r, .int 0]) (pc' := 7) (cs' := 0) (ss' := 0) rfl rfl rfl rfl rfl ?_)
  refine gW_b D_Tr_freeIn 5 1 (pc' := 8) (l' := [(0, .ref 0), (1, .int (nI a)), (2, .int r)]) (st' := [.int (r - (hA f a)), .int 0]) (h' := cTr f) (P := True) rfl trivial ?_
  refine gW_max (gmem 696 (by decide +kernel)) (gdec_at D_Tr_freeIn 6 rfl) (Nat.le_of_ble_eq_true rfl) (Nat.le_of_ble_eq_true rfl) (Nat.le_of_ble_eq_true rfl) (Nat.le_of_ble_eq_true rfl) ?_
  exact gW_iret (gdec_at D_Tr_freeIn 7 rfl) rfl rfl (Nat.le_of_ble_eq_true rfl) ⟨rfl, rfl⟩ (Nat.le_of_ble_eq_true rfl) (Nat.le_of_ble_eq_true rfl)
/-- of the first i tones of tray a: how many it has -/
def tnc (f : Nat → Int32) (a : Nat) : Nat → Nat
  | 0 => 0
  | i + 1 => if f (a * 4 + i) ≤ 0 then tnc f a i else tnc f a i + 1
theorem tnc_le (f : Nat → Int32) (a : Nat) : ∀ i, tnc f a i ≤ i
  | 0 => Nat.le_refl _
  | i + 1 => by
    have := tnc_le f a i
    unfold tnc
    split <;> omega
def tn (f : Nat → Int32) (a : Nat) : Nat := tnc f a 4
theorem tn_le (f : Nat → Int32) (a : Nat) : tn f a ≤ 4 := tnc_le f a 4
theorem l_tonesIn (f : Nat → Int32) (a : Nat) (ha : a < 6) {sc : Nat × (Nat → Int32)} {n0 : Nat} {E : gO → gH → Prop} (kk : gW K_Tr_tonesIn sc { frames := 0, locals := 0, cells := 0, slots := 0 } n0 E 0 0 43 [(0, .ref 0), (1, .int (nI a)), (2, .int (nI (tnc f a 4))), (3, .int (nI 4))] [] (cTr f)) : ∀ (n i : Nat), i + n = 4 → gW K_Tr_tonesIn sc { frames := 0, locals := 0, cells := 0, slots := 0 } n0 E 0 0 16 [(0, .ref 0), (1, .int (nI a)), (2, .int (nI (tnc f a i))), (3, .int (nI i))] [] (cTr f) := by
  intro n
  induction n with
  | zero =>
    intro i hi
    obtain rfl : 4 = i := by omega
    refine gW_b D_Tr_tonesIn 11 2 (pc' := 18) (l' := [(0, .ref 0), (1, .int (nI a)), (2, .int (nI (tnc f a 4))), (3, .int (nI 4))]) (st' := [.int 4, .int (nI 4)]) (h' := cTr f) (P := True) rfl trivial ?_
    refine gW_ic_ge (gdec_at D_Tr_tonesIn 13 rfl) (tgt := 43) rfl (fun _ => ?_) (fun c => absurd ((gle (gk 4) (rfl : nI 4 = nI 4) (by omega) (by omega)).mpr (by omega)) c)
    exact kk
  | succ n ih =>
    intro i hi
    refine gW_b D_Tr_tonesIn 11 2 (pc' := 18) (l' := [(0, .ref 0), (1, .int (nI a)), (2, .int (nI (tnc f a i))), (3, .int (nI i))]) (st' := [.int 4, .int (nI i)]) (h' := cTr f) (P := True) rfl trivial ?_
    refine gW_ic_ge (gdec_at D_Tr_tonesIn 13 rfl) (tgt := 43) rfl (fun c => absurd c (mt (gle (gk 4) (rfl : nI i = nI i) (by omega) (by omega)).mp (by omega))) (fun _ => ?_)
    have hb := tnc_le f a i
    refine gW_b D_Tr_tonesIn 14 8 (pc' := 31) (l' := [(0, .ref 0), (1, .int (nI a)), (2, .int (nI (tnc f a i))), (3, .int (nI i))]) (st' := [.int (f ((((nI a) * 4) + (nI i)).toNatClampNeg))]) (h' := cTr f) (P := vp_in (((nI a) * 4) + (nI i)) 24 ∧ True) rfl ⟨(gvin (gadd (gmul (rfl : nI a = nI a) (gk 4)) (rfl : nI i = nI i)) (by omega) (by omega)), trivial⟩ ?_
    rw [show (((nI a) * 4) + (nI i)).toNatClampNeg = ((a * 4) + i) from gclp (gadd (gmul (rfl : nI a = nI a) (gk 4)) (rfl : nI i = nI i)) (by omega)]
    refine gW_if_le (gdec_at D_Tr_tonesIn 22 rfl) (tgt := 37) rfl (fun c => ?_) (fun c => ?_)
    · skip
      refine gW_b D_Tr_tonesIn 24 2 (pc' := 16) (l' := [(0, .ref 0), (1, .int (nI a)), (2, .int (nI (tnc f a i))), (3, .int ((nI i) + 1))]) (st' := []) (h' := cTr f) (P := True) rfl trivial ?_
      rw [show ((nI i) + 1 : Int32) = nI (i + 1) from (gadd (rfl : nI i = nI i) (gk 1))]
      rw [show tnc f a i = tnc f a (i + 1) from (if_pos c).symm]
      exact ih (i + 1) (by omega)
    · skip
      refine gW_b D_Tr_tonesIn 23 3 (pc' := 16) (l' := [(0, .ref 0), (1, .int (nI a)), (2, .int ((nI (tnc f a i)) + 1)), (3, .int ((nI i) + 1))]) (st' := []) (h' := cTr f) (P := True) rfl trivial ?_
      rw [show ((nI (tnc f a i)) + 1 : Int32) = nI ((tnc f a i) + 1) from (gadd (rfl : nI (tnc f a i) = nI (tnc f a i)) (gk 1))]
      rw [show ((nI i) + 1 : Int32) = nI (i + 1) from (gadd (rfl : nI i = nI i) (gk 1))]
      rw [show tnc f a i + 1 = tnc f a (i + 1) from (if_neg c).symm]
      exact ih (i + 1) (by omega)
theorem m_tonesIn (f : Nat → Int32) (a : Nat) (ha : a < 6) : gM K_Tr_tonesIn { frames := 0, locals := 0, cells := 0, slots := 0 } [.ref 0, .int (nI a)] (cTr f) (gD (.inl (some (.int (nI (tn f a))))) (cTr f)) := by
  refine gM_of rfl rfl (Nat.le_of_ble_eq_true rfl) (fun sc => ?_)
  refine gW_b D_Tr_tonesIn 0 1 (pc' := 1) (l' := [(0, .ref 0), (1, .int (nI a))]) (st' := [.int (nI a)]) (h' := cTr f) (P := True) rfl trivial ?_
  refine gW_if_lt (gdec_at D_Tr_tonesIn 1 rfl) (tgt := 10) rfl (fun c => absurd c (nI_pos (n := a) (by omega))) (fun _ => ?_)
  refine gW_b D_Tr_tonesIn 2 2 (pc' := 7) (l' := [(0, .ref 0), (1, .int (nI a))]) (st' := [.int 6, .int (nI a)]) (h' := cTr f) (P := True) rfl trivial ?_
  refine gW_ic_lt (gdec_at D_Tr_tonesIn 4 rfl) (tgt := 12) rfl (fun _ => ?_) (fun c => absurd ((glt (rfl : nI a = nI a) (gk 6) (by omega) (by omega)).mpr (by omega)) c)
  refine gW_b D_Tr_tonesIn 7 4 (pc' := 16) (l' := [(0, .ref 0), (1, .int (nI a)), (2, .int 0), (3, .int 0)]) (st' := []) (h' := cTr f) (P := True) rfl trivial ?_
  refine l_tonesIn f a ha ?_ 4 0 rfl
  refine gW_b D_Tr_tonesIn 26 1 (pc' := 44) (l' := [(0, .ref 0), (1, .int (nI a)), (2, .int (nI (tnc f a 4))), (3, .int (nI 4))]) (st' := [.int (nI (tnc f a 4))]) (h' := cTr f) (P := True) rfl trivial ?_
  exact gW_iret (gdec_at D_Tr_tonesIn 27 rfl) rfl rfl (Nat.le_of_ble_eq_true rfl) ⟨rfl, rfl⟩ (Nat.le_of_ble_eq_true rfl) (Nat.le_of_ble_eq_true rfl)
def mxc (f : Nat → Int32) : Nat → Nat
  | 0 => 0
  | i + 1 => if tn f i ≤ 1 then mxc f i else mxc f i + 1
theorem mxc_le (f : Nat → Int32) : ∀ i, mxc f i ≤ i
  | 0 => Nat.le_refl _
  | i + 1 => by
    have := mxc_le f i
    unfold mxc
    split <;> omega
theorem l_mixedTrays (f : Nat → Int32) {sc : Nat × (Nat → Int32)} {n0 : Nat} {E : gO → gH → Prop} (kk : gW K_Tr_mixedTrays sc { frames := 1, locals := 23, cells := 0, slots := 0 } n0 E 0 0 28 [(0, .ref 0), (1, .int (nI (mxc f 6))), (2, .int (nI 6))] [] (cTr f)) : ∀ (n i : Nat), i + n = 6 → gW K_Tr_mixedTrays sc { frames := 1, locals := 23, cells := 0, slots := 0 } n0 E 0 0 4 [(0, .ref 0), (1, .int (nI (mxc f i))), (2, .int (nI i))] [] (cTr f) := by
  intro n
  induction n with
  | zero =>
    intro i hi
    obtain rfl : 6 = i := by omega
    refine gW_b D_Tr_mixedTrays 4 2 (pc' := 7) (l' := [(0, .ref 0), (1, .int (nI (mxc f 6))), (2, .int (nI 6))]) (st' := [.int 6, .int (nI 6)]) (h' := cTr f) (P := True) rfl trivial ?_
    refine gW_ic_ge (gdec_at D_Tr_mixedTrays 6 rfl) (tgt := 28) rfl (fun _ => ?_) (fun c => absurd ((gle (gk 6) (rfl : nI 6 = nI 6) (by omega) (by omega)).mpr (by omega)) c)
    exact kk
  | succ n ih =>
    intro i hi
    refine gW_b D_Tr_mixedTrays 4 2 (pc' := 7) (l' := [(0, .ref 0), (1, .int (nI (mxc f i))), (2, .int (nI i))]) (st' := [.int 6, .int (nI i)]) (h' := cTr f) (P := True) rfl trivial ?_
    refine gW_ic_ge (gdec_at D_Tr_mixedTrays 6 rfl) (tgt := 28) rfl (fun c => absurd c (mt (gle (gk 6) (rfl : nI i = nI i) (by omega) (by omega)).mp (by omega))) (fun _ => ?_)
    have hb := mxc_le f i
    have hb2 := tn_le f i
    refine gW_b D_Tr_mixedTrays 7 2 (pc' := 12) (l' := [(0, .ref 0), (1, .int (nI (mxc f i))), (2, .int (nI i))]) (st' := [.int (nI i), .ref 0]) (h' := cTr f) (P := True) rfl trivial ?_
    refine gW_callV (m_tonesIn f i (by omega)) lk_Tr_32 [0, 1] (gdec_at D_Tr_mixedTrays 9 rfl) (st := []) rfl rfl ⟨rfl, rfl⟩ (Nat.le_of_ble_eq_true rfl) rfl (by decide) rfl (Nat.le_of_ble_eq_true rfl) ⟨Nat.le_of_ble_eq_true rfl, Nat.le_of_ble_eq_true rfl⟩ ⟨Nat.le_of_ble_eq_true rfl, Nat.le_of_ble_eq_true rfl⟩ (gAft_r rfl rfl (h' := cTr f) (st' := [.int (nI (tn f i))]) (pc' := 15) (cs' := 0) (ss' := 0) rfl rfl rfl rfl rfl ?_)
    refine gW_b D_Tr_mixedTrays 10 1 (pc' := 16) (l' := [(0, .ref 0), (1, .int (nI (mxc f i))), (2, .int (nI i))]) (st' := [.int 1, .int (nI (tn f i))]) (h' := cTr f) (P := True) rfl trivial ?_
    refine gW_ic_le (gdec_at D_Tr_mixedTrays 11 rfl) (tgt := 22) rfl (fun c => ?_) (fun c => ?_)
    · have c := (gle (rfl : nI (tn f i) = nI (tn f i)) (gk 1) (by omega) (by omega)).mp c
      refine gW_b D_Tr_mixedTrays 13 2 (pc' := 4) (l' := [(0, .ref 0), (1, .int (nI (mxc f i))), (2, .int ((nI i) + 1))]) (st' := []) (h' := cTr f) (P := True) rfl trivial ?_
      rw [show ((nI i) + 1 : Int32) = nI (i + 1) from (gadd (rfl : nI i = nI i) (gk 1))]
      rw [show mxc f i = mxc f (i + 1) from (if_pos c).symm]
      exact ih (i + 1) (by omega)
    · have c := mt (gle (rfl : nI (tn f i) = nI (tn f i)) (gk 1) (by omega) (by omega)).mpr c
      refine gW_b D_Tr_mixedTrays 12 3 (pc' := 4) (l' := [(0, .ref 0), (1, .int ((nI (mxc f i)) + 1)), (2, .int ((nI i) + 1))]) (st' := []) (h' := cTr f) (P := True) rfl trivial ?_
      rw [show ((nI (mxc f i)) + 1 : Int32) = nI ((mxc f i) + 1) from (gadd (rfl : nI (mxc f i) = nI (mxc f i)) (gk 1))]
      rw [show ((nI i) + 1 : Int32) = nI (i + 1) from (gadd (rfl : nI i = nI i) (gk 1))]
      rw [show mxc f i + 1 = mxc f (i + 1) from (if_neg c).symm]
      exact ih (i + 1) (by omega)
theorem m_mixedTrays (f : Nat → Int32) : gM K_Tr_mixedTrays { frames := 1, locals := 23, cells := 0, slots := 0 } [.ref 0] (cTr f) (gD (.inl (some (.int (nI (mxc f 6))))) (cTr f)) := by
  refine gM_of rfl rfl (Nat.le_of_ble_eq_true rfl) (fun sc => ?_)
  refine gW_b D_Tr_mixedTrays 0 4 (pc' := 4) (l' := [(0, .ref 0), (1, .int 0), (2, .int 0)]) (st' := []) (h' := cTr f) (P := True) rfl trivial ?_
  refine l_mixedTrays f ?_ 6 0 rfl
  refine gW_b D_Tr_mixedTrays 15 1 (pc' := 29) (l' := [(0, .ref 0), (1, .int (nI (mxc f 6))), (2, .int (nI 6))]) (st' := [.int (nI (mxc f 6))]) (h' := cTr f) (P := True) rfl trivial ?_
  exact gW_iret (gdec_at D_Tr_mixedTrays 16 rfl) rfl rfl (Nat.le_of_ble_eq_true rfl) ⟨rfl, rfl⟩ (Nat.le_of_ble_eq_true rfl) (Nat.le_of_ble_eq_true rfl)
def emc (f : Nat → Int32) : Nat → Nat
  | 0 => 0
  | i + 1 => if tn f i = 0 then emc f i + 1 else emc f i
theorem emc_le (f : Nat → Int32) : ∀ i, emc f i ≤ i
  | 0 => Nat.le_refl _
  | i + 1 => by
    have := emc_le f i
    unfold emc
    split <;> omega
theorem l_emptyTrays (f : Nat → Int32) {sc : Nat × (Nat → Int32)} {n0 : Nat} {E : gO → gH → Prop} (kk : gW K_Tr_emptyTrays sc { frames := 1, locals := 23, cells := 0, slots := 0 } n0 E 0 0 27 [(0, .ref 0), (1, .int (nI (emc f 6))), (2, .int (nI 6))] [] (cTr f)) : ∀ (n i : Nat), i + n = 6 → gW K_Tr_emptyTrays sc { frames := 1, locals := 23, cells := 0, slots := 0 } n0 E 0 0 4 [(0, .ref 0), (1, .int (nI (emc f i))), (2, .int (nI i))] [] (cTr f) := by
  intro n
  induction n with
  | zero =>
    intro i hi
    obtain rfl : 6 = i := by omega
    refine gW_b D_Tr_emptyTrays 4 2 (pc' := 7) (l' := [(0, .ref 0), (1, .int (nI (emc f 6))), (2, .int (nI 6))]) (st' := [.int 6, .int (nI 6)]) (h' := cTr f) (P := True) rfl trivial ?_
    refine gW_ic_ge (gdec_at D_Tr_emptyTrays 6 rfl) (tgt := 27) rfl (fun _ => ?_) (fun c => absurd ((gle (gk 6) (rfl : nI 6 = nI 6) (by omega) (by omega)).mpr (by omega)) c)
    exact kk
  | succ n ih =>
    intro i hi
    refine gW_b D_Tr_emptyTrays 4 2 (pc' := 7) (l' := [(0, .ref 0), (1, .int (nI (emc f i))), (2, .int (nI i))]) (st' := [.int 6, .int (nI i)]) (h' := cTr f) (P := True) rfl trivial ?_
    refine gW_ic_ge (gdec_at D_Tr_emptyTrays 6 rfl) (tgt := 27) rfl (fun c => absurd c (mt (gle (gk 6) (rfl : nI i = nI i) (by omega) (by omega)).mp (by omega))) (fun _ => ?_)
    have hb := emc_le f i
    have hb2 := tn_le f i
    refine gW_b D_Tr_emptyTrays 7 2 (pc' := 12) (l' := [(0, .ref 0), (1, .int (nI (emc f i))), (2, .int (nI i))]) (st' := [.int (nI i), .ref 0]) (h' := cTr f) (P := True) rfl trivial ?_
    refine gW_callV (m_tonesIn f i (by omega)) lk_Tr_32 [0, 1] (gdec_at D_Tr_emptyTrays 9 rfl) (st := []) rfl rfl ⟨rfl, rfl⟩ (Nat.le_of_ble_eq_true rfl) rfl (by decide) rfl (Nat.le_of_ble_eq_true rfl) ⟨Nat.le_of_ble_eq_true rfl, Nat.le_of_ble_eq_true rfl⟩ ⟨Nat.le_of_ble_eq_true rfl, Nat.le_of_ble_eq_true rfl⟩ (gAft_r rfl rfl (h' := cTr f) (st' := [.int (nI (tn f i))]) (pc' := 15) (cs' := 0) (ss' := 0) rfl rfl rfl rfl rfl ?_)
    refine gW_if_ne (gdec_at D_Tr_emptyTrays 10 rfl) (tgt := 21) rfl (fun c => ?_) (fun c => ?_)
    · have c := mt (geq (rfl : nI (tn f i) = nI (tn f i)) (gk 0) (by omega) (by omega)).mpr c
      refine gW_b D_Tr_emptyTrays 12 2 (pc' := 4) (l' := [(0, .ref 0), (1, .int (nI (emc f i))), (2, .int ((nI i) + 1))]) (st' := []) (h' := cTr f) (P := True) rfl trivial ?_
      rw [show ((nI i) + 1 : Int32) = nI (i + 1) from (gadd (rfl : nI i = nI i) (gk 1))]
      rw [show emc f i = emc f (i + 1) from (if_neg c).symm]
      exact ih (i + 1) (by omega)
    · have c := (geq (rfl : nI (tn f i) = nI (tn f i)) (gk 0) (by omega) (by omega)).mp c
      refine gW_b D_Tr_emptyTrays 11 3 (pc' := 4) (l' := [(0, .ref 0), (1, .int ((nI (emc f i)) + 1)), (2, .int ((nI i) + 1))]) (st' := []) (h' := cTr f) (P := True) rfl trivial ?_
      rw [show ((nI (emc f i)) + 1 : Int32) = nI ((emc f i) + 1) from (gadd (rfl : nI (emc f i) = nI (emc f i)) (gk 1))]
      rw [show ((nI i) + 1 : Int32) = nI (i + 1) from (gadd (rfl : nI i = nI i) (gk 1))]
      rw [show emc f i + 1 = emc f (i + 1) from (if_pos c).symm]
      exact ih (i + 1) (by omega)
theorem m_emptyTrays (f : Nat → Int32) : gM K_Tr_emptyTrays { frames := 1, locals := 23, cells := 0, slots := 0 } [.ref 0] (cTr f) (gD (.inl (some (.int (nI (emc f 6))))) (cTr f)) := by
  refine gM_of rfl rfl (Nat.le_of_ble_eq_true rfl) (fun sc => ?_)
  refine gW_b D_Tr_emptyTrays 0 4 (pc' := 4) (l' := [(0, .ref 0), (1, .int 0), (2, .int 0)]) (st' := []) (h' := cTr f) (P := True) rfl trivial ?_
  refine l_emptyTrays f ?_ 6 0 rfl
  refine gW_b D_Tr_emptyTrays 14 1 (pc' := 28) (l' := [(0, .ref 0), (1, .int (nI (emc f 6))), (2, .int (nI 6))]) (st' := [.int (nI (emc f 6))]) (h' := cTr f) (P := True) rfl trivial ?_
  exact gW_iret (gdec_at D_Tr_emptyTrays 15 rfl) rfl rfl (Nat.le_of_ble_eq_true rfl) ⟨rfl, rfl⟩ (Nat.le_of_ble_eq_true rfl) (Nat.le_of_ble_eq_true rfl)
def hO (f : Nat → Int32) (t : Nat) : Int32 := 0 + f (0 * 4 + t) + f (1 * 4 + t) + f (2 * 4 + t) + f (3 * 4 + t) + f (4 * 4 + t) + f (5 * 4 + t)

theorem m_heldOf (f : Nat → Int32) (t : Nat) (ht : t < 4) : gM K_Tr_heldOf { frames := 1, locals := 23, cells := 0, slots := 0 } [.ref 0, .int (nI t)] (cTr f) (gD (.inl (some (.int (hO f t)))) (cTr f)) := by
  refine gM_of rfl rfl (Nat.le_of_ble_eq_true rfl) (fun sc => ?_)
  refine gW_b D_Tr_heldOf 0 6 (pc' := 7) (l' := [(0, .ref 0), (1, .int (nI t)), (2, .int 0), (3, .int 0)]) (st' := [.int 6, .int 0]) (h' := cTr f) (P := True) rfl trivial ?_
  refine gW_ic_ge (gdec_at D_Tr_heldOf 6 rfl) (tgt := 25) rfl (fun c => absurd c (by decide)) (fun _ => ?_)
  refine gW_b D_Tr_heldOf 7 4 (pc' := 14) (l' := [(0, .ref 0), (1, .int (nI t)), (2, .int 0), (3, .int 0)]) (st' := [.int (nI t), .int 0, .ref 0, .int 0]) (h' := cTr f) (P := True) rfl trivial ?_
  refine gW_callV (m_held f 0 t (by omega) (by omega)) lk_Tr_19 [0, 1] (gdec_at D_Tr_heldOf 11 rfl) (st := [.int 0]) rfl rfl ⟨rfl, rfl⟩ (Nat.le_of_ble_eq_true rfl) rfl (by decide) rfl (Nat.le_of_ble_eq_true rfl) ⟨Nat.le_of_ble_eq_true rfl, Nat.le_of_ble_eq_true rfl⟩ ⟨Nat.le_of_ble_eq_true rfl, Nat.le_of_ble_eq_true rfl⟩ (gAft_r rfl rfl (h' := cTr f) (st' := [.int (f (0 * 4 + t)), .int 0]) (pc' := 17) (cs' := 0) (ss' := 0) rfl rfl rfl rfl rfl ?_)
  refine gW_b D_Tr_heldOf 12 4 (pc' := 4) (l' := [(0, .ref 0), (1, .int (nI t)), (2, .int (0 + (f (0 * 4 + t)))), (3, .int 1)]) (st' := []) (h' := cTr f) (P := True) rfl trivial ?_
  refine gW_b D_Tr_heldOf 4 2 (pc' := 7) (l' := [(0, .ref 0), (1, .int (nI t)), (2, .int (0 + (f (0 * 4 + t)))), (3, .int 1)]) (st' := [.int 6, .int 1]) (h' := cTr f) (P := True) rfl trivial ?_
  refine gW_ic_ge (gdec_at D_Tr_heldOf 6 rfl) (tgt := 25) rfl (fun c => absurd c (by decide)) (fun _ => ?_)
  refine gW_b D_Tr_heldOf 7 4 (pc' := 14) (l' := [(0, .ref 0), (1, .int (nI t)), (2, .int (0 + (f (0 * 4 + t)))), (3, .int 1)]) (st' := [.int (nI t), .int 1, .ref 0, .int (0 + (f (0 * 4 + t)))]) (h' := cTr f) (P := True) rfl trivial ?_
  refine gW_callV (m_held f 1 t (by omega) (by omega)) lk_Tr_19 [0, 1] (gdec_at D_Tr_heldOf 11 rfl) (st := [.int (0 + (f (0 * 4 + t)))]) rfl rfl ⟨rfl, rfl⟩ (Nat.le_of_ble_eq_true rfl) rfl (by decide) rfl (Nat.le_of_ble_eq_true rfl) ⟨Nat.le_of_ble_eq_true rfl, Nat.le_of_ble_eq_true rfl⟩ ⟨Nat.le_of_ble_eq_true rfl, Nat.le_of_ble_eq_true rfl⟩ (gAft_r rfl rfl (h' := cTr f) (st' := [.int (f (1 * 4 + t)), .int (0 + (f (0 * 4 + t)))]) (pc' := 17) (cs' := 0) (ss' := 0) rfl rfl rfl rfl rfl ?_)
  refine gW_b D_Tr_heldOf 12 4 (pc' := 4) (l' := [(0, .ref 0), (1, .int (nI t)), (2, .int ((0 + (f (0 * 4 + t))) + (f (1 * 4 + t)))), (3, .int 2)]) (st' := []) (h' := cTr f) (P := True) rfl trivial ?_
  refine gW_b D_Tr_heldOf 4 2 (pc' := 7) (l' := [(0, .ref 0), (1, .int (nI t)), (2, .int ((0 + (f (0 * 4 + t))) + (f (1 * 4 + t)))), (3, .int 2)]) (st' := [.int 6, .int 2]) (h' := cTr f) (P := True) rfl trivial ?_
  refine gW_ic_ge (gdec_at D_Tr_heldOf 6 rfl) (tgt := 25) rfl (fun c => absurd c (by decide)) (fun _ => ?_)
  refine gW_b D_Tr_heldOf 7 4 (pc' := 14) (l' := [(0, .ref 0), (1, .int (nI t)), (2, .int ((0 + (f (0 * 4 + t))) + (f (1 * 4 + t)))), (3, .int 2)]) (st' := [.int (nI t), .int 2, .ref 0, .int ((0 + (f (0 * 4 + t))) + (f (1 * 4 + t)))]) (h' := cTr f) (P := True) rfl trivial ?_
  refine gW_callV (m_held f 2 t (by omega) (by omega)) lk_Tr_19 [0, 1] (gdec_at D_Tr_heldOf 11 rfl) (st := [.int ((0 + (f (0 * 4 + t))) + (f (1 * 4 + t)))]) rfl rfl ⟨rfl, rfl⟩ (Nat.le_of_ble_eq_true rfl) rfl (by decide) rfl (Nat.le_of_ble_eq_true rfl) ⟨Nat.le_of_ble_eq_true rfl, Nat.le_of_ble_eq_true rfl⟩ ⟨Nat.le_of_ble_eq_true rfl, Nat.le_of_ble_eq_true rfl⟩ (gAft_r rfl rfl (h' := cTr f) (st' := [.int (f (2 * 4 + t)), .int ((0 + (f (0 * 4 + t))) + (f (1 * 4 + t)))]) (pc' := 17) (cs' := 0) (ss' := 0) rfl rfl rfl rfl rfl ?_)
  refine gW_b D_Tr_heldOf 12 4 (pc' := 4) (l' := [(0, .ref 0), (1, .int (nI t)), (2, .int (((0 + (f (0 * 4 + t))) + (f (1 * 4 + t))) + (f (2 * 4 + t)))), (3, .int 3)]) (st' := []) (h' := cTr f) (P := True) rfl trivial ?_
  refine gW_b D_Tr_heldOf 4 2 (pc' := 7) (l' := [(0, .ref 0), (1, .int (nI t)), (2, .int (((0 + (f (0 * 4 + t))) + (f (1 * 4 + t))) + (f (2 * 4 + t)))), (3, .int 3)]) (st' := [.int 6, .int 3]) (h' := cTr f) (P := True) rfl trivial ?_
  refine gW_ic_ge (gdec_at D_Tr_heldOf 6 rfl) (tgt := 25) rfl (fun c => absurd c (by decide)) (fun _ => ?_)
  refine gW_b D_Tr_heldOf 7 4 (pc' := 14) (l' := [(0, .ref 0), (1, .int (nI t)), (2, .int (((0 + (f (0 * 4 + t))) + (f (1 * 4 + t))) + (f (2 * 4 + t)))), (3, .int 3)]) (st' := [.int (nI t), .int 3, .ref 0, .int (((0 + (f (0 * 4 + t))) + (f (1 * 4 + t))) + (f (2 * 4 + t)))]) (h' := cTr f) (P := True) rfl trivial ?_
  refine gW_callV (m_held f 3 t (by omega) (by omega)) lk_Tr_19 [0, 1] (gdec_at D_Tr_heldOf 11 rfl) (st := [.int (((0 + (f (0 * 4 + t))) + (f (1 * 4 + t))) + (f (2 * 4 + t)))]) rfl rfl ⟨rfl, rfl⟩ (Nat.le_of_ble_eq_true rfl) rfl (by decide) rfl (Nat.le_of_ble_eq_true rfl) ⟨Nat.le_of_ble_eq_true rfl, Nat.le_of_ble_eq_true rfl⟩ ⟨Nat.le_of_ble_eq_true rfl, Nat.le_of_ble_eq_true rfl⟩ (gAft_r rfl rfl (h' := cTr f) (st' := [.int (f (3 * 4 + t)), .int (((0 + (f (0 * 4 + t))) + (f (1 * 4 + t))) + (f (2 * 4 + t)))]) (pc' := 17) (cs' := 0) (ss' := 0) rfl rfl rfl rfl rfl ?_)
  refine gW_b D_Tr_heldOf 12 4 (pc' := 4) (l' := [(0, .ref 0), (1, .int (nI t)), (2, .int ((((0 + (f (0 * 4 + t))) + (f (1 * 4 + t))) + (f (2 * 4 + t))) + (f (3 * 4 + t)))), (3, .int 4)]) (st' := []) (h' := cTr f) (P := True) rfl trivial ?_
  refine gW_b D_Tr_heldOf 4 2 (pc' := 7) (l' := [(0, .ref 0), (1, .int (nI t)), (2, .int ((((0 + (f (0 * 4 + t))) + (f (1 * 4 + t))) + (f (2 * 4 + t))) + (f (3 * 4 + t)))), (3, .int 4)]) (st' := [.int 6, .int 4]) (h' := cTr f) (P := True) rfl trivial ?_
  refine gW_ic_ge (gdec_at D_Tr_heldOf 6 rfl) (tgt := 25) rfl (fun c => absurd c (by decide)) (fun _ => ?_)
  refine gW_b D_Tr_heldOf 7 4 (pc' := 14) (l' := [(0, .ref 0), (1, .int (nI t)), (2, .int ((((0 + (f (0 * 4 + t))) + (f (1 * 4 + t))) + (f (2 * 4 + t))) + (f (3 * 4 + t)))), (3, .int 4)]) (st' := [.int (nI t), .int 4, .ref 0, .int ((((0 + (f (0 * 4 + t))) + (f (1 * 4 + t))) + (f (2 * 4 + t))) + (f (3 * 4 + t)))]) (h' := cTr f) (P := True) rfl trivial ?_
  refine gW_callV (m_held f 4 t (by omega) (by omega)) lk_Tr_19 [0, 1] (gdec_at D_Tr_heldOf 11 rfl) (st := [.int ((((0 + (f (0 * 4 + t))) + (f (1 * 4 + t))) + (f (2 * 4 + t))) + (f (3 * 4 + t)))]) rfl rfl ⟨rfl, rfl⟩ (Nat.le_of_ble_eq_true rfl) rfl (by decide) rfl (Nat.le_of_ble_eq_true rfl) ⟨Nat.le_of_ble_eq_true rfl, Nat.le_of_ble_eq_true rfl⟩ ⟨Nat.le_of_ble_eq_true rfl, Nat.le_of_ble_eq_true rfl⟩ (gAft_r rfl rfl (h' := cTr f) (st' := [.int (f (4 * 4 + t)), .int ((((0 + (f (0 * 4 + t))) + (f (1 * 4 + t))) + (f (2 * 4 + t))) + (f (3 * 4 + t)))]) (pc' := 17) (cs' := 0) (ss' := 0) rfl rfl rfl rfl rfl ?_)
  refine gW_b D_Tr_heldOf 12 4 (pc' := 4) (l' := [(0, .ref 0), (1, .int (nI t)), (2, .int (((((0 + (f (0 * 4 + t))) + (f (1 * 4 + t))) + (f (2 * 4 + t))) + (f (3 * 4 + t))) + (f (4 * 4 + t)))), (3, .int 5)]) (st' := []) (h' := cTr f) (P := True) rfl trivial ?_
  refine gW_b D_Tr_heldOf 4 2 (pc' := 7) (l' := [(0, .ref 0), (1, .int (nI t)), (2, .int (((((0 + (f (0 * 4 + t))) + (f (1 * 4 + t))) + (f (2 * 4 + t))) + (f (3 * 4 + t))) + (f (4 * 4 + t)))), (3, .int 5)]) (st' := [.int 6, .int 5]) (h' := cTr f) (P := True) rfl trivial ?_
  refine gW_ic_ge (gdec_at D_Tr_heldOf 6 rfl) (tgt := 25) rfl (fun c => absurd c (by decide)) (fun _ => ?_)
  refine gW_b D_Tr_heldOf 7 4 (pc' := 14) (l' := [(0, .ref 0), (1, .int (nI t)), (2, .int (((((0 + (f (0 * 4 + t))) + (f (1 * 4 + t))) + (f (2 * 4 + t))) + (f (3 * 4 + t))) + (f (4 * 4 + t)))), (3, .int 5)]) (st' := [.int (nI t), .int 5, .ref 0, .int (((((0 + (f (0 * 4 + t))) + (f (1 * 4 + t))) + (f (2 * 4 + t))) + (f (3 * 4 + t))) + (f (4 * 4 + t)))]) (h' := cTr f) (P := True) rfl trivial ?_
  refine gW_callV (m_held f 5 t (by omega) (by omega)) lk_Tr_19 [0, 1] (gdec_at D_Tr_heldOf 11 rfl) (st := [.int (((((0 + (f (0 * 4 + t))) + (f (1 * 4 + t))) + (f (2 * 4 + t))) + (f (3 * 4 + t))) + (f (4 * 4 + t)))]) rfl rfl ⟨rfl, rfl⟩ (Nat.le_of_ble_eq_true rfl) rfl (by decide) rfl (Nat.le_of_ble_eq_true rfl) ⟨Nat.le_of_ble_eq_true rfl, Nat.le_of_ble_eq_true rfl⟩ ⟨Nat.le_of_ble_eq_true rfl, Nat.le_of_ble_eq_true rfl⟩ (gAft_r rfl rfl (h' := cTr f) (st' := [.int (f (5 * 4 + t)), .int (((((0 + (f (0 * 4 + t))) + (f (1 * 4 + t))) + (f (2 * 4 + t))) + (f (3 * 4 + t))) + (f (4 * 4 + t)))]) (pc' := 17) (cs' := 0) (ss' := 0) rfl rfl rfl rfl rfl ?_)
  refine gW_b D_Tr_heldOf 12 4 (pc' := 4) (l' := [(0, .ref 0), (1, .int (nI t)), (2, .int ((((((0 + (f (0 * 4 + t))) + (f (1 * 4 + t))) + (f (2 * 4 + t))) + (f (3 * 4 + t))) + (f (4 * 4 + t))) + (f (5 * 4 + t)))), (3, .int 6)]) (st' := []) (h' := cTr f) (P := True) rfl trivial ?_
  refine gW_b D_Tr_heldOf 4 2 (pc' := 7) (l' := [(0, .ref 0), (1, .int (nI t)), (2, .int ((((((0 + (f (0 * 4 + t))) + (f (1 * 4 + t))) + (f (2 * 4 + t))) + (f (3 * 4 + t))) + (f (4 * 4 + t))) + (f (5 * 4 + t)))), (3, .int 6)]) (st' := [.int 6, .int 6]) (h' := cTr f) (P := True) rfl trivial ?_
  refine gW_ic_ge (gdec_at D_Tr_heldOf 6 rfl) (tgt := 25) rfl (fun _ => ?_) (fun c => absurd (by decide) c)
  refine gW_b D_Tr_heldOf 16 1 (pc' := 26) (l' := [(0, .ref 0), (1, .int (nI t)), (2, .int ((((((0 + (f (0 * 4 + t))) + (f (1 * 4 + t))) + (f (2 * 4 + t))) + (f (3 * 4 + t))) + (f (4 * 4 + t))) + (f (5 * 4 + t)))), (3, .int 6)]) (st' := [.int ((((((0 + (f (0 * 4 + t))) + (f (1 * 4 + t))) + (f (2 * 4 + t))) + (f (3 * 4 + t))) + (f (4 * 4 + t))) + (f (5 * 4 + t)))]) (h' := cTr f) (P := True) rfl trivial ?_
  exact gW_iret (gdec_at D_Tr_heldOf 17 rfl) rfl rfl (Nat.le_of_ble_eq_true rfl) ⟨rfl, rfl⟩ (Nat.le_of_ble_eq_true rfl) (Nat.le_of_ble_eq_true rfl)
/-- the cubes of tone t in the first i trays, of those that are not mixed up -/
def rdc (f : Nat → Int32) (t : Nat) : Nat → Int32
  | 0 => 0
  | i + 1 => if f (i * 4 + t) ≤ 0 then rdc f t i else if tn f i = 1 then rdc f t i + f (i * 4 + t) else rdc f t i
theorem l_readyOf (f : Nat → Int32) (t : Nat) (ht : t < 4) {sc : Nat × (Nat → Int32)} {n0 : Nat} {E : gO → gH → Prop} (kk : gW K_Tr_readyOf sc { frames := 1, locals := 23, cells := 0, slots := 0 } n0 E 0 0 43 [(0, .ref 0), (1, .int (nI t)), (2, .int (rdc f t 6)), (3, .int (nI 6))] [] (cTr f)) : ∀ (n i : Nat), i + n = 6 → gW K_Tr_readyOf sc { frames := 1, locals := 23, cells := 0, slots := 0 } n0 E 0 0 4 [(0, .ref 0), (1, .int (nI t)), (2, .int (rdc f t i)), (3, .int (nI i))] [] (cTr f) := by
  intro n
  induction n with
  | zero =>
    intro i hi
    obtain rfl : 6 = i := by omega
    refine gW_b D_Tr_readyOf 4 2 (pc' := 7) (l' := [(0, .ref 0), (1, .int (nI t)), (2, .int (rdc f t 6)), (3, .int (nI 6))]) (st' := [.int 6, .int (nI 6)]) (h' := cTr f) (P := True) rfl trivial ?_
    refine gW_ic_ge (gdec_at D_Tr_readyOf 6 rfl) (tgt := 43) rfl (fun _ => ?_) (fun c => absurd ((gle (gk 6) (rfl : nI 6 = nI 6) (by omega) (by omega)).mpr (by omega)) c)
    exact kk
  | succ n ih =>
    intro i hi
    refine gW_b D_Tr_readyOf 4 2 (pc' := 7) (l' := [(0, .ref 0), (1, .int (nI t)), (2, .int (rdc f t i)), (3, .int (nI i))]) (st' := [.int 6, .int (nI i)]) (h' := cTr f) (P := True) rfl trivial ?_
    refine gW_ic_ge (gdec_at D_Tr_readyOf 6 rfl) (tgt := 43) rfl (fun c => absurd c (mt (gle (gk 6) (rfl : nI i = nI i) (by omega) (by omega)).mp (by omega))) (fun _ => ?_)
    have hb2 := tn_le f i
    refine gW_b D_Tr_readyOf 7 3 (pc' := 13) (l' := [(0, .ref 0), (1, .int (nI t)), (2, .int (rdc f t i)), (3, .int (nI i))]) (st' := [.int (nI t), .int (nI i), .ref 0]) (h' := cTr f) (P := True) rfl trivial ?_
    refine gW_callV (m_held f i t (by omega) (by omega)) lk_Tr_19 [0, 1] (gdec_at D_Tr_readyOf 10 rfl) (st := []) rfl rfl ⟨rfl, rfl⟩ (Nat.le_of_ble_eq_true rfl) rfl (by decide) rfl (Nat.le_of_ble_eq_true rfl) ⟨Nat.le_of_ble_eq_true rfl, Nat.le_of_ble_eq_true rfl⟩ ⟨Nat.le_of_ble_eq_true rfl, Nat.le_of_ble_eq_true rfl⟩ (gAft_r rfl rfl (h' := cTr f) (st' := [.int (f (i * 4 + t))]) (pc' := 16) (cs' := 0) (ss' := 0) rfl rfl rfl rfl rfl ?_)
    refine gW_if_le (gdec_at D_Tr_readyOf 11 rfl) (tgt := 37) rfl (fun c => ?_) (fun c => ?_)
    · skip
      refine gW_b D_Tr_readyOf 24 2 (pc' := 4) (l' := [(0, .ref 0), (1, .int (nI t)), (2, .int (rdc f t i)), (3, .int ((nI i) + 1))]) (st' := []) (h' := cTr f) (P := True) rfl trivial ?_
      rw [show ((nI i) + 1 : Int32) = nI (i + 1) from (gadd (rfl : nI i = nI i) (gk 1))]
      rw [show rdc f t i = rdc f t (i + 1) from (if_pos c).symm]
      exact ih (i + 1) (by omega)
    · skip
      refine gW_b D_Tr_readyOf 12 2 (pc' := 21) (l' := [(0, .ref 0), (1, .int (nI t)), (2, .int (rdc f t i)), (3, .int (nI i))]) (st' := [.int (nI i), .ref 0]) (h' := cTr f) (P := True) rfl trivial ?_
      refine gW_callV (m_tonesIn f i (by omega)) lk_Tr_32 [0, 1] (gdec_at D_Tr_readyOf 14 rfl) (st := []) rfl rfl ⟨rfl, rfl⟩ (Nat.le_of_ble_eq_true rfl) rfl (by decide) rfl (Nat.le_of_ble_eq_true rfl) ⟨Nat.le_of_ble_eq_true rfl, Nat.le_of_ble_eq_true rfl⟩ ⟨Nat.le_of_ble_eq_true rfl, Nat.le_of_ble_eq_true rfl⟩ (gAft_r rfl rfl (h' := cTr f) (st' := [.int (nI (tn f i))]) (pc' := 24) (cs' := 0) (ss' := 0) rfl rfl rfl rfl rfl ?_)
      refine gW_b D_Tr_readyOf 15 1 (pc' := 25) (l' := [(0, .ref 0), (1, .int (nI t)), (2, .int (rdc f t i)), (3, .int (nI i))]) (st' := [.int 1, .int (nI (tn f i))]) (h' := cTr f) (P := True) rfl trivial ?_
      refine gW_ic_ne (gdec_at D_Tr_readyOf 16 rfl) (tgt := 37) rfl (fun d => ?_) (fun d => ?_)
      · have d := mt (geq (rfl : nI (tn f i) = nI (tn f i)) (gk 1) (by omega) (by omega)).mpr d
        refine gW_b D_Tr_readyOf 24 2 (pc' := 4) (l' := [(0, .ref 0), (1, .int (nI t)), (2, .int (rdc f t i)), (3, .int ((nI i) + 1))]) (st' := []) (h' := cTr f) (P := True) rfl trivial ?_
        rw [show ((nI i) + 1 : Int32) = nI (i + 1) from (gadd (rfl : nI i = nI i) (gk 1))]
        rw [show rdc f t i = rdc f t (i + 1) from ((if_neg c).trans (if_neg d)).symm]
        exact ih (i + 1) (by omega)
      · have d := (geq (rfl : nI (tn f i) = nI (tn f i)) (gk 1) (by omega) (by omega)).mp d
        refine gW_b D_Tr_readyOf 17 4 (pc' := 32) (l' := [(0, .ref 0), (1, .int (nI t)), (2, .int (rdc f t i)), (3, .int (nI i))]) (st' := [.int (nI t), .int (nI i), .ref 0, .int (rdc f t i)]) (h' := cTr f) (P := True) rfl trivial ?_
        refine gW_callV (m_held f i t (by omega) (by omega)) lk_Tr_19 [0, 1] (gdec_at D_Tr_readyOf 21 rfl) (st := [.int (rdc f t i)]) rfl rfl ⟨rfl, rfl⟩ (Nat.le_of_ble_eq_true rfl) rfl (by decide) rfl (Nat.le_of_ble_eq_true rfl) ⟨Nat.le_of_ble_eq_true rfl, Nat.le_of_ble_eq_true rfl⟩ ⟨Nat.le_of_ble_eq_true rfl, Nat.le_of_ble_eq_true rfl⟩ (gAft_r rfl rfl (h' := cTr f) (st' := [.int (f (i * 4 + t)), .int (rdc f t i)]) (pc' := 35) (cs' := 0) (ss' := 0) rfl rfl rfl rfl rfl ?_)
        refine gW_b D_Tr_readyOf 22 4 (pc' := 4) (l' := [(0, .ref 0), (1, .int (nI t)), (2, .int ((rdc f t i) + (f (i * 4 + t)))), (3, .int ((nI i) + 1))]) (st' := []) (h' := cTr f) (P := True) rfl trivial ?_
        rw [show ((nI i) + 1 : Int32) = nI (i + 1) from (gadd (rfl : nI i = nI i) (gk 1))]
        rw [show rdc f t i + f (i * 4 + t) = rdc f t (i + 1) from ((if_neg c).trans (if_pos d)).symm]
        exact ih (i + 1) (by omega)
theorem m_readyOf (f : Nat → Int32) (t : Nat) (ht : t < 4) : gM K_Tr_readyOf { frames := 1, locals := 23, cells := 0, slots := 0 } [.ref 0, .int (nI t)] (cTr f) (gD (.inl (some (.int (rdc f t 6)))) (cTr f)) := by
  refine gM_of rfl rfl (Nat.le_of_ble_eq_true rfl) (fun sc => ?_)
  refine gW_b D_Tr_readyOf 0 4 (pc' := 4) (l' := [(0, .ref 0), (1, .int (nI t)), (2, .int 0), (3, .int 0)]) (st' := []) (h' := cTr f) (P := True) rfl trivial ?_
  refine l_readyOf f t ht ?_ 6 0 rfl
  refine gW_b D_Tr_readyOf 26 1 (pc' := 44) (l' := [(0, .ref 0), (1, .int (nI t)), (2, .int (rdc f t 6)), (3, .int (nI 6))]) (st' := [.int (rdc f t 6)]) (h' := cTr f) (P := True) rfl trivial ?_
  exact gW_iret (gdec_at D_Tr_readyOf 27 rfl) rfl rfl (Nat.le_of_ble_eq_true rfl) ⟨rfl, rfl⟩ (Nat.le_of_ble_eq_true rfl) (Nat.le_of_ble_eq_true rfl)
def pmI (f : Nat → Int32) (a t : Nat) (r : Int32) : Int32 := if r < f (a * 4 + t) then r else f (a * 4 + t)
def pourF (f : Nat → Int32) (a b t : Nat) (m : Int32) : Nat → Int32 := upd (upd f (a * 4 + t) (f (a * 4 + t) + -m)) (b * 4 + t) (upd f (a * 4 + t) (f (a * 4 + t) + -m) (b * 4 + t) + m)

theorem m_pour (f : Nat → Int32) (a b t : Nat) (r : Int32) (ha : a < 6) (hb : b < 6) (ht : t < 4) : gM K_Tr_pour { frames := 1, locals := 23, cells := 0, slots := 0 } [.ref 0, .int (nI a), .int (nI b), .int (nI t), .int r] (cTr f) (gD (.inl (some (.int (pmI f a t r)))) (cTr (pourF f a b t (pmI f a t r)))) := by
  refine gM_of rfl rfl (Nat.le_of_ble_eq_true rfl) (fun sc => ?_)
  refine gW_b D_Tr_pour 0 3 (pc' := 3) (l' := [(0, .ref 0), (1, .int (nI a)), (2, .int (nI b)), (3, .int (nI t)), (4, .int r)]) (st' := [.int (nI t), .int (nI a), .ref 0]) (h' := cTr f) (P := True) rfl trivial ?_
  refine gW_callV (m_held f a t (by omega) (by omega)) lk_Tr_19 [0, 1] (gdec_at D_Tr_pour 3 rfl) (st := []) rfl rfl ⟨rfl, rfl⟩ (Nat.le_of_ble_eq_true rfl) rfl (by decide) rfl (Nat.le_of_ble_eq_true rfl) ⟨Nat.le_of_ble_eq_true rfl, Nat.le_of_ble_eq_true rfl⟩ ⟨Nat.le_of_ble_eq_true rfl, Nat.le_of_ble_eq_true rfl⟩ (gAft_r rfl rfl (h' := cTr f) (st' := [.int (f (a * 4 + t))]) (pc' := 6) (cs' := 0) (ss' := 0) rfl rfl rfl rfl rfl ?_)
  refine gW_b D_Tr_pour 4 1 (pc' := 8) (l' := [(0, .ref 0), (1, .int (nI a)), (2, .int (nI b)), (3, .int (nI t)), (4, .int r)]) (st' := [.int r, .int (f (a * 4 + t))]) (h' := cTr f) (P := True) rfl trivial ?_
  refine gW_min (gmem 495 (by decide +kernel)) (gdec_at D_Tr_pour 5 rfl) (Nat.le_of_ble_eq_true rfl) (Nat.le_of_ble_eq_true rfl) (Nat.le_of_ble_eq_true rfl) (Nat.le_of_ble_eq_true rfl) ?_
  rw [show (if r < f (a * 4 + t) then r else f (a * 4 + t) : Int32) = pmI f a t r from rfl]
  refine gW_b D_Tr_pour 6 6 (pc' := 19) (l' := [(0, .ref 0), (1, .int (nI a)), (2, .int (nI b)), (3, .int (nI t)), (4, .int r), (5, .int (pmI f a t r))]) (st' := [.int (-(pmI f a t r)), .int (nI t), .int (nI a), .ref 0]) (h' := cTr f) (P := True) rfl trivial ?_
  refine gW_callV (m_change f a t (-(pmI f a t r)) (by omega) (by omega)) lk_Tr_38 [0, 1] (gdec_at D_Tr_pour 12 rfl) (st := []) rfl rfl ⟨rfl, rfl⟩ (Nat.le_of_ble_eq_true rfl) rfl (by decide) rfl (Nat.le_of_ble_eq_true rfl) ⟨Nat.le_of_ble_eq_true rfl, Nat.le_of_ble_eq_true rfl⟩ ⟨Nat.le_of_ble_eq_true rfl, Nat.le_of_ble_eq_true rfl⟩ (gAft_r rfl rfl (h' := cTr (upd f (a * 4 + t) ((f (a * 4 + t)) + (-(pmI f a t r))))) (st' := []) (pc' := 22) (cs' := 0) (ss' := 0) rfl rfl rfl rfl rfl ?_)
  refine gW_b D_Tr_pour 13 4 (pc' := 27) (l' := [(0, .ref 0), (1, .int (nI a)), (2, .int (nI b)), (3, .int (nI t)), (4, .int r), (5, .int (pmI f a t r))]) (st' := [.int (pmI f a t r), .int (nI t), .int (nI b), .ref 0]) (h' := cTr (upd f (a * 4 + t) ((f (a * 4 + t)) + (-(pmI f a t r))))) (P := True) rfl trivial ?_
  refine gW_callV (m_change (upd f (a * 4 + t) ((f (a * 4 + t)) + (-(pmI f a t r)))) b t (pmI f a t r) (by omega) (by omega)) lk_Tr_38 [0, 1] (gdec_at D_Tr_pour 17 rfl) (st := []) rfl rfl ⟨rfl, rfl⟩ (Nat.le_of_ble_eq_true rfl) rfl (by decide) rfl (Nat.le_of_ble_eq_true rfl) ⟨Nat.le_of_ble_eq_true rfl, Nat.le_of_ble_eq_true rfl⟩ ⟨Nat.le_of_ble_eq_true rfl, Nat.le_of_ble_eq_true rfl⟩ (gAft_r rfl rfl (h' := cTr (upd (upd f (a * 4 + t) ((f (a * 4 + t)) + (-(pmI f a t r)))) (b * 4 + t) (((upd f (a * 4 + t) ((f (a * 4 + t)) + (-(pmI f a t r)))) (b * 4 + t)) + (pmI f a t r)))) (st' := []) (pc' := 30) (cs' := 0) (ss' := 0) rfl rfl rfl rfl rfl ?_)
  refine gW_b D_Tr_pour 18 1 (pc' := 32) (l' := [(0, .ref 0), (1, .int (nI a)), (2, .int (nI b)), (3, .int (nI t)), (4, .int r), (5, .int (pmI f a t r))]) (st' := [.int (pmI f a t r)]) (h' := cTr (upd (upd f (a * 4 + t) ((f (a * 4 + t)) + (-(pmI f a t r)))) (b * 4 + t) (((upd f (a * 4 + t) ((f (a * 4 + t)) + (-(pmI f a t r)))) (b * 4 + t)) + (pmI f a t r)))) (P := True) rfl trivial ?_
  exact gW_iret (gdec_at D_Tr_pour 19 rfl) rfl rfl (Nat.le_of_ble_eq_true rfl) ⟨rfl, rfl⟩ (Nat.le_of_ble_eq_true rfl) (Nat.le_of_ble_eq_true rfl)

theorem m_clear (f : Nat → Int32) (a t : Nat) (ha : a < 6) (ht : t < 4) : gM K_Tr_clear { frames := 1, locals := 23, cells := 0, slots := 0 } [.ref 0, .int (nI a), .int (nI t)] (cTr f) (gD (.inl (some (.int (f (a * 4 + t))))) (cTr (upd f (a * 4 + t) (f (a * 4 + t) + -(f (a * 4 + t)))))) := by
  refine gM_of rfl rfl (Nat.le_of_ble_eq_true rfl) (fun sc => ?_)
  refine gW_b D_Tr_clear 0 3 (pc' := 3) (l' := [(0, .ref 0), (1, .int (nI a)), (2, .int (nI t))]) (st' := [.int (nI t), .int (nI a), .ref 0]) (h' := cTr f) (P := True) rfl trivial ?_
  refine gW_callV (m_held f a t (by omega) (by omega)) lk_Tr_19 [0, 1] (gdec_at D_Tr_clear 3 rfl) (st := []) rfl rfl ⟨rfl, rfl⟩ (Nat.le_of_ble_eq_true rfl) rfl (by decide) rfl (Nat.le_of_ble_eq_true rfl) ⟨Nat.le_of_ble_eq_true rfl, Nat.le_of_ble_eq_true rfl⟩ ⟨Nat.le_of_ble_eq_true rfl, Nat.le_of_ble_eq_true rfl⟩ (gAft_r rfl rfl (h' := cTr f) (st' := [.int (f (a * 4 + t))]) (pc' := 6) (cs' := 0) (ss' := 0) rfl rfl rfl rfl rfl ?_)
  refine gW_b D_Tr_clear 4 6 (pc' := 12) (l' := [(0, .ref 0), (1, .int (nI a)), (2, .int (nI t)), (3, .int (f (a * 4 + t)))]) (st' := [.int (-(f (a * 4 + t))), .int (nI t), .int (nI a), .ref 0]) (h' := cTr f) (P := True) rfl trivial ?_
  refine gW_callV (m_change f a t (-(f (a * 4 + t))) (by omega) (by omega)) lk_Tr_38 [0, 1] (gdec_at D_Tr_clear 10 rfl) (st := []) rfl rfl ⟨rfl, rfl⟩ (Nat.le_of_ble_eq_true rfl) rfl (by decide) rfl (Nat.le_of_ble_eq_true rfl) ⟨Nat.le_of_ble_eq_true rfl, Nat.le_of_ble_eq_true rfl⟩ ⟨Nat.le_of_ble_eq_true rfl, Nat.le_of_ble_eq_true rfl⟩ (gAft_r rfl rfl (h' := cTr (upd f (a * 4 + t) ((f (a * 4 + t)) + (-(f (a * 4 + t)))))) (st' := []) (pc' := 15) (cs' := 0) (ss' := 0) rfl rfl rfl rfl rfl ?_)
  refine gW_b D_Tr_clear 11 1 (pc' := 16) (l' := [(0, .ref 0), (1, .int (nI a)), (2, .int (nI t)), (3, .int (f (a * 4 + t)))]) (st' := [.int (f (a * 4 + t))]) (h' := cTr (upd f (a * 4 + t) ((f (a * 4 + t)) + (-(f (a * 4 + t)))))) (P := True) rfl trivial ?_
  exact gW_iret (gdec_at D_Tr_clear 12 rfl) rfl rfl (Nat.le_of_ble_eq_true rfl) ⟨rfl, rfl⟩ (Nat.le_of_ble_eq_true rfl) (Nat.le_of_ble_eq_true rfl)
/-- of tones 0 to i the lowest of which tray a has most -/
def moc (f : Nat → Int32) (a : Nat) : Nat → Nat
  | 0 => 0
  | i + 1 => if f (a * 4 + (i + 1)) ≤ f (a * 4 + moc f a i) then moc f a i else i + 1
theorem moc_le (f : Nat → Int32) (a : Nat) : ∀ i, moc f a i ≤ i
  | 0 => Nat.le_refl _
  | i + 1 => by
    have := moc_le f a i
    unfold moc
    split <;> omega
theorem l_mostOf (f : Nat → Int32) (a : Nat) (ha : a < 6) {sc : Nat × (Nat → Int32)} {n0 : Nat} {E : gO → gH → Prop} (kk : gW K_Tr_mostOf sc { frames := 1, locals := 23, cells := 0, slots := 0 } n0 E 0 0 32 [(0, .ref 0), (1, .int (nI a)), (2, .int (nI (moc f a 3))), (3, .int (nI (3 + 1)))] [] (cTr f)) : ∀ (n i : Nat), i + n = 3 → gW K_Tr_mostOf sc { frames := 1, locals := 23, cells := 0, slots := 0 } n0 E 0 0 4 [(0, .ref 0), (1, .int (nI a)), (2, .int (nI (moc f a i))), (3, .int (nI (i + 1)))] [] (cTr f) := by
  intro n
  induction n with
  | zero =>
    intro i hi
    obtain rfl : 3 = i := by omega
    refine gW_b D_Tr_mostOf 4 2 (pc' := 6) (l' := [(0, .ref 0), (1, .int (nI a)), (2, .int (nI (moc f a 3))), (3, .int (nI (3 + 1)))]) (st' := [.int 4, .int (nI (3 + 1))]) (h' := cTr f) (P := True) rfl trivial ?_
    refine gW_ic_ge (gdec_at D_Tr_mostOf 6 rfl) (tgt := 32) rfl (fun _ => ?_) (fun c => absurd ((gle (gk 4) (rfl : nI (3 + 1) = nI (3 + 1)) (by omega) (by omega)).mpr (by omega)) c)
    exact kk
  | succ n ih =>
    intro i hi
    refine gW_b D_Tr_mostOf 4 2 (pc' := 6) (l' := [(0, .ref 0), (1, .int (nI a)), (2, .int (nI (moc f a i))), (3, .int (nI (i + 1)))]) (st' := [.int 4, .int (nI (i + 1))]) (h' := cTr f) (P := True) rfl trivial ?_
    refine gW_ic_ge (gdec_at D_Tr_mostOf 6 rfl) (tgt := 32) rfl (fun c => absurd c (mt (gle (gk 4) (rfl : nI (i + 1) = nI (i + 1)) (by omega) (by omega)).mp (by omega))) (fun _ => ?_)
    have hb2 := moc_le f a i
    refine gW_b D_Tr_mostOf 7 3 (pc' := 12) (l' := [(0, .ref 0), (1, .int (nI a)), (2, .int (nI (moc f a i))), (3, .int (nI (i + 1)))]) (st' := [.int (nI (i + 1)), .int (nI a), .ref 0]) (h' := cTr f) (P := True) rfl trivial ?_
    refine gW_callV (m_held f a (i + 1) (by omega) (by omega)) lk_Tr_19 [0, 1] (gdec_at D_Tr_mostOf 10 rfl) (st := []) rfl rfl ⟨rfl, rfl⟩ (Nat.le_of_ble_eq_true rfl) rfl (by decide) rfl (Nat.le_of_ble_eq_true rfl) ⟨Nat.le_of_ble_eq_true rfl, Nat.le_of_ble_eq_true rfl⟩ ⟨Nat.le_of_ble_eq_true rfl, Nat.le_of_ble_eq_true rfl⟩ (gAft_r rfl rfl (h' := cTr f) (st' := [.int (f (a * 4 + (i + 1)))]) (pc' := 15) (cs' := 0) (ss' := 0) rfl rfl rfl rfl rfl ?_)
    refine gW_b D_Tr_mostOf 11 3 (pc' := 18) (l' := [(0, .ref 0), (1, .int (nI a)), (2, .int (nI (moc f a i))), (3, .int (nI (i + 1)))]) (st' := [.int (nI (moc f a i)), .int (nI a), .ref 0, .int (f (a * 4 + (i + 1)))]) (h' := cTr f) (P := True) rfl trivial ?_
    refine gW_callV (m_held f a (moc f a i) (by omega) (by omega)) lk_Tr_19 [0, 1] (gdec_at D_Tr_mostOf 14 rfl) (st := [.int (f (a * 4 + (i + 1)))]) rfl rfl ⟨rfl, rfl⟩ (Nat.le_of_ble_eq_true rfl) rfl (by decide) rfl (Nat.le_of_ble_eq_true rfl) ⟨Nat.le_of_ble_eq_true rfl, Nat.le_of_ble_eq_true rfl⟩ ⟨Nat.le_of_ble_eq_true rfl, Nat.le_of_ble_eq_true rfl⟩ (gAft_r rfl rfl (h' := cTr f) (st' := [.int (f (a * 4 + (moc f a i))), .int (f (a * 4 + (i + 1)))]) (pc' := 21) (cs' := 0) (ss' := 0) rfl rfl rfl rfl rfl ?_)
    refine gW_ic_le (gdec_at D_Tr_mostOf 15 rfl) (tgt := 26) rfl (fun c => ?_) (fun c => ?_)
    · skip
      refine gW_b D_Tr_mostOf 18 2 (pc' := 4) (l' := [(0, .ref 0), (1, .int (nI a)), (2, .int (nI (moc f a i))), (3, .int ((nI (i + 1)) + 1))]) (st' := []) (h' := cTr f) (P := True) rfl trivial ?_
      rw [show ((nI (i + 1)) + 1 : Int32) = nI ((i + 1) + 1) from (gadd (rfl : nI (i + 1) = nI (i + 1)) (gk 1))]
      rw [show moc f a i = moc f a (i + 1) from (if_pos c).symm]
      exact ih (i + 1) (by omega)
    · skip
      refine gW_b D_Tr_mostOf 16 4 (pc' := 4) (l' := [(0, .ref 0), (1, .int (nI a)), (2, .int (nI (i + 1))), (3, .int ((nI (i + 1)) + 1))]) (st' := []) (h' := cTr f) (P := True) rfl trivial ?_
      rw [show ((nI (i + 1)) + 1 : Int32) = nI ((i + 1) + 1) from (gadd (rfl : nI (i + 1) = nI (i + 1)) (gk 1))]
      rw [show (gW K_Tr_mostOf sc { frames := 1, locals := 23, cells := 0, slots := 0 } n0 E 0 0 4 [(0, .ref 0), (1, .int (nI a)), (2, .int (nI (i + 1))), (3, .int (nI (i + 1 + 1)))] [] (cTr f)) = (gW K_Tr_mostOf sc { frames := 1, locals := 23, cells := 0, slots := 0 } n0 E 0 0 4 [(0, .ref 0), (1, .int (nI a)), (2, .int (nI (moc f a (i + 1)))), (3, .int (nI (i + 1 + 1)))] [] (cTr f)) from by rw [show moc f a (i + 1) = i + 1 from if_neg c]]
      exact ih (i + 1) (by omega)
theorem m_mostOf (f : Nat → Int32) (a : Nat) (ha : a < 6) : gM K_Tr_mostOf { frames := 1, locals := 23, cells := 0, slots := 0 } [.ref 0, .int (nI a)] (cTr f) (gD (.inl (some (.int (nI (moc f a 3))))) (cTr f)) := by
  refine gM_of rfl rfl (Nat.le_of_ble_eq_true rfl) (fun sc => ?_)
  refine gW_b D_Tr_mostOf 0 4 (pc' := 4) (l' := [(0, .ref 0), (1, .int (nI a)), (2, .int 0), (3, .int 1)]) (st' := []) (h' := cTr f) (P := True) rfl trivial ?_
  refine l_mostOf f a ha ?_ 3 0 rfl
  refine gW_b D_Tr_mostOf 20 1 (pc' := 33) (l' := [(0, .ref 0), (1, .int (nI a)), (2, .int (nI (moc f a 3))), (3, .int (nI (3 + 1)))]) (st' := [.int (nI (moc f a 3))]) (h' := cTr f) (P := True) rfl trivial ?_
  exact gW_iret (gdec_at D_Tr_mostOf 21 rfl) rfl rfl (Nat.le_of_ble_eq_true rfl) ⟨rfl, rfl⟩ (Nat.le_of_ble_eq_true rfl) (Nat.le_of_ble_eq_true rfl)
def lec (f : Nat → Int32) : Nat → Nat → Nat
  | 0, i => i
  | n + 1, i => if tn f i = 0 then i else lec f n (i + 1)
/-- the lowest empty tray, 6 if there is none -/
def le6 (f : Nat → Int32) : Nat := lec f 6 0
def leV (e : Nat) : Int32 := if e < 6 then nI e else -1
theorem l_lowestEmpty (f : Nat → Int32) {sc : Nat × (Nat → Int32)} {n0 : Nat} (hn0 : n0 ≤ 2) : ∀ (n i : Nat) , i + n = 6 → gW K_Tr_lowestEmpty sc { frames := 1, locals := 23, cells := 0, slots := 0 } n0 (gD (.inl (some (.int (leV (lec f n i))))) (cTr f)) 0 0 2 [(0, .ref 0), (1, .int (nI i))] [] (cTr f) := by
  intro n
  induction n with
  | zero =>
    intro i  hi
    obtain rfl : 6 = i := by omega
    refine gW_b D_Tr_lowestEmpty 2 2 (pc' := 5) (l' := [(0, .ref 0), (1, .int (nI 6))]) (st' := [.int 6, .int (nI 6)]) (h' := cTr f) (P := True) rfl trivial ?_
    refine gW_ic_ge (gdec_at D_Tr_lowestEmpty 4 rfl) (tgt := 24) rfl (fun _ => ?_) (fun c => absurd ((gle (gk 6) (rfl : nI 6 = nI 6) (by omega) (by omega)).mpr (by omega)) c)
    refine gW_b D_Tr_lowestEmpty 13 1 (pc' := 25) (l' := [(0, .ref 0), (1, .int (nI 6))]) (st' := [.int (-1)]) (h' := cTr f) (P := True) rfl trivial ?_
    exact gW_iret (gdec_at D_Tr_lowestEmpty 14 rfl) rfl rfl hn0 ⟨rfl, rfl⟩ (Nat.le_of_ble_eq_true rfl) (Nat.le_of_ble_eq_true rfl)
  | succ n ih =>
    intro i  hi
    have hb2 := tn_le f i
    refine gW_b D_Tr_lowestEmpty 2 2 (pc' := 5) (l' := [(0, .ref 0), (1, .int (nI i))]) (st' := [.int 6, .int (nI i)]) (h' := cTr f) (P := True) rfl trivial ?_
    refine gW_ic_ge (gdec_at D_Tr_lowestEmpty 4 rfl) (tgt := 24) rfl (fun c => absurd c (mt (gle (gk 6) (rfl : nI i = nI i) (by omega) (by omega)).mp (by omega))) (fun _ => ?_)
    refine gW_b D_Tr_lowestEmpty 5 2 (pc' := 10) (l' := [(0, .ref 0), (1, .int (nI i))]) (st' := [.int (nI i), .ref 0]) (h' := cTr f) (P := True) rfl trivial ?_
    refine gW_callV (m_tonesIn f i (by omega)) lk_Tr_32 [0, 1] (gdec_at D_Tr_lowestEmpty 7 rfl) (st := []) rfl rfl ⟨rfl, rfl⟩ (Nat.le_of_ble_eq_true rfl) rfl (by decide) rfl (Nat.le_of_ble_eq_true rfl) ⟨Nat.le_of_ble_eq_true rfl, Nat.le_of_ble_eq_true rfl⟩ ⟨Nat.le_of_ble_eq_true rfl, Nat.le_of_ble_eq_true rfl⟩ (gAft_r rfl rfl (h' := cTr f) (st' := [.int (nI (tn f i))]) (pc' := 13) (cs' := 0) (ss' := 0) rfl rfl rfl rfl rfl ?_)
    refine gW_if_ne (gdec_at D_Tr_lowestEmpty 8 rfl) (tgt := 18) rfl (fun c => ?_) (fun c => ?_)
    · have c := mt (geq (rfl : nI (tn f i) = nI (tn f i)) (gk 0) (by omega) (by omega)).mpr c
      refine gW_b D_Tr_lowestEmpty 11 2 (pc' := 2) (l' := [(0, .ref 0), (1, .int ((nI i) + 1))]) (st' := []) (h' := cTr f) (P := True) rfl trivial ?_
      rw [show ((nI i) + 1 : Int32) = nI (i + 1) from (gadd (rfl : nI i = nI i) (gk 1))]
      rw [show lec f (n + 1) i = lec f n (i + 1) from if_neg c]
      exact ih (i + 1) (by omega)
    · have c := (geq (rfl : nI (tn f i) = nI (tn f i)) (gk 0) (by omega) (by omega)).mp c
      refine gW_b D_Tr_lowestEmpty 9 1 (pc' := 17) (l' := [(0, .ref 0), (1, .int (nI i))]) (st' := [.int (nI i)]) (h' := cTr f) (P := True) rfl trivial ?_
      rw [show lec f (n + 1) i = i from if_pos c, show leV i = nI i from if_pos (by omega)]
      exact gW_iret (gdec_at D_Tr_lowestEmpty 10 rfl) rfl rfl hn0 ⟨rfl, rfl⟩ (Nat.le_of_ble_eq_true rfl) (Nat.le_of_ble_eq_true rfl)
theorem m_lowestEmpty (f : Nat → Int32) : gM K_Tr_lowestEmpty { frames := 1, locals := 23, cells := 0, slots := 0 } [.ref 0] (cTr f) (gD (.inl (some (.int (leV (le6 f))))) (cTr f)) := by
  refine gM_of rfl rfl (Nat.le_of_ble_eq_true rfl) (fun sc => ?_)
  refine gW_b D_Tr_lowestEmpty 0 2 (pc' := 2) (l' := [(0, .ref 0), (1, .int 0)]) (st' := []) (h' := cTr f) (P := True) rfl trivial ?_
  exact l_lowestEmpty f (Nat.le_refl _) 6 0 rfl
/-- one tone sorted out of tray a: not the one that is kept, and only if a tray is empty -/
def soS (a k : Nat) (r : Int32) (f : Nat → Int32) (t : Nat) : Nat → Int32 := if t = k then f else if leV (le6 f) = -1 then f else pourF f a (le6 f) t (pmI f a t r)
def soR (a k : Nat) (r : Int32) (f : Nat → Int32) : Nat → Nat → Int32
  | 0 => f
  | t + 1 => soS a k r (soR a k r f t) t
theorem leV_lt {f : Nat → Int32} (h : ¬ leV (le6 f) = -1) : le6 f < 6 := by
  by_cases h1 : le6 f < 6
  · exact h1
  · exact absurd (if_neg h1) h
theorem l_sortOut (f : Nat → Int32) (a k : Nat) (r : Int32) (ha : a < 6) (hk : k ≤ 3) {sc : Nat × (Nat → Int32)} {n0 : Nat} {E : gO → gH → Prop} (kk : gW K_Tr_sortOut sc { frames := 2, locals := 48, cells := 0, slots := 0 } n0 E 0 0 50 [(0, .ref 0), (1, .int (nI a)), (2, .int r), (3, .int (nI k)), (4, .int (nI 4))] [] (cTr (soR a k r f 4))) : ∀ (n i : Nat), i + n = 4 → gW K_Tr_sortOut sc { frames := 2, locals := 48, cells := 0, slots := 0 } n0 E 0 0 9 [(0, .ref 0), (1, .int (nI a)), (2, .int r), (3, .int (nI k)), (4, .int (nI i))] [] (cTr (soR a k r f i)) := by
  intro n
  induction n with
  | zero =>
    intro i hi
    obtain rfl : 4 = i := by omega
    refine gW_b D_Tr_sortOut 6 2 (pc' := 12) (l' := [(0, .ref 0), (1, .int (nI a)), (2, .int r), (3, .int (nI k)), (4, .int (nI 4))]) (st' := [.int 4, .int (nI 4)]) (h' := cTr (soR a k r f 4)) (P := True) rfl trivial ?_
    refine gW_ic_ge (gdec_at D_Tr_sortOut 8 rfl) (tgt := 50) rfl (fun _ => ?_) (fun c => absurd ((gle (gk 4) (rfl : nI 4 = nI 4) (by omega) (by omega)).mpr (by omega)) c)
    exact kk
  | succ n ih =>
    intro i hi
    refine gW_b D_Tr_sortOut 6 2 (pc' := 12) (l' := [(0, .ref 0), (1, .int (nI a)), (2, .int r), (3, .int (nI k)), (4, .int (nI i))]) (st' := [.int 4, .int (nI i)]) (h' := cTr (soR a k r f i)) (P := True) rfl trivial ?_
    refine gW_ic_ge (gdec_at D_Tr_sortOut 8 rfl) (tgt := 50) rfl (fun c => absurd c (mt (gle (gk 4) (rfl : nI i = nI i) (by omega) (by omega)).mp (by omega))) (fun _ => ?_)
    refine gW_b D_Tr_sortOut 9 1 (pc' := 16) (l' := [(0, .ref 0), (1, .int (nI a)), (2, .int r), (3, .int (nI k)), (4, .int (nI i))]) (st' := [.ref 0]) (h' := cTr (soR a k r f i)) (P := True) rfl trivial ?_
    refine gW_callV (m_lowestEmpty (soR a k r f i)) lk_Tr_45 [0, 1] (gdec_at D_Tr_sortOut 10 rfl) (st := []) rfl rfl ⟨rfl, rfl⟩ (Nat.le_of_ble_eq_true rfl) rfl (by decide) rfl (Nat.le_of_ble_eq_true rfl) ⟨Nat.le_of_ble_eq_true rfl, Nat.le_of_ble_eq_true rfl⟩ ⟨Nat.le_of_ble_eq_true rfl, Nat.le_of_ble_eq_true rfl⟩ (gAft_r rfl rfl (h' := cTr (soR a k r f i)) (st' := [.int (leV (le6 (soR a k r f i)))]) (pc' := 19) (cs' := 0) (ss' := 0) rfl rfl rfl rfl rfl ?_)
    refine gW_b D_Tr_sortOut 11 3 (pc' := 24) (l' := [(0, .ref 0), (1, .int (nI a)), (2, .int r), (3, .int (nI k)), (4, .int (nI i)), (5, .int (leV (le6 (soR a k r f i))))]) (st' := [.int (nI k), .int (nI i)]) (h' := cTr (soR a k r f i)) (P := True) rfl trivial ?_
    refine gW_ic_eq (gdec_at D_Tr_sortOut 14 rfl) (tgt := 44) rfl (fun c => ?_) (fun c => ?_)
    · have c := (geq (rfl : nI i = nI i) (rfl : nI k = nI k) (by omega) (by omega)).mp c
      refine gW_l [0, 1, 2, 3, 4] (l' := [(0, .ref 0), (1, .int (nI a)), (2, .int r), (3, .int (nI k)), (4, .int (nI i))]) rfl ?_
      refine gW_b D_Tr_sortOut 25 2 (pc' := 9) (l' := [(0, .ref 0), (1, .int (nI a)), (2, .int r), (3, .int (nI k)), (4, .int ((nI i) + 1))]) (st' := []) (h' := cTr (soR a k r f i)) (P := True) rfl trivial ?_
      rw [show ((nI i) + 1 : Int32) = nI (i + 1) from (gadd (rfl : nI i = nI i) (gk 1))]
      rw [show soR a k r f i = soR a k r f (i + 1) from (if_pos c).symm]
      exact ih (i + 1) (by omega)
    · have c := mt (geq (rfl : nI i = nI i) (rfl : nI k = nI k) (by omega) (by omega)).mpr c
      refine gW_b D_Tr_sortOut 15 2 (pc' := 30) (l' := [(0, .ref 0), (1, .int (nI a)), (2, .int r), (3, .int (nI k)), (4, .int (nI i)), (5, .int (leV (le6 (soR a k r f i))))]) (st' := [.int (-1), .int (leV (le6 (soR a k r f i)))]) (h' := cTr (soR a k r f i)) (P := True) rfl trivial ?_
      refine gW_ic_eq (gdec_at D_Tr_sortOut 17 rfl) (tgt := 44) rfl (fun d => ?_) (fun d => ?_)
      · skip
        refine gW_l [0, 1, 2, 3, 4] (l' := [(0, .ref 0), (1, .int (nI a)), (2, .int r), (3, .int (nI k)), (4, .int (nI i))]) rfl ?_
        refine gW_b D_Tr_sortOut 25 2 (pc' := 9) (l' := [(0, .ref 0), (1, .int (nI a)), (2, .int r), (3, .int (nI k)), (4, .int ((nI i) + 1))]) (st' := []) (h' := cTr (soR a k r f i)) (P := True) rfl trivial ?_
        rw [show ((nI i) + 1 : Int32) = nI (i + 1) from (gadd (rfl : nI i = nI i) (gk 1))]
        rw [show soR a k r f i = soR a k r f (i + 1) from ((if_neg c).trans (if_pos d)).symm]
        exact ih (i + 1) (by omega)
      · skip
        have he := leV_lt d
        rw [show (leV (le6 (soR a k r f i)) : Int32) = nI (le6 (soR a k r f i)) from if_pos he]
        refine gW_b D_Tr_sortOut 18 5 (pc' := 40) (l' := [(0, .ref 0), (1, .int (nI a)), (2, .int r), (3, .int (nI k)), (4, .int (nI i)), (5, .int (nI (le6 (soR a k r f i))))]) (st' := [.int r, .int (nI i), .int (nI (le6 (soR a k r f i))), .int (nI a), .ref 0]) (h' := cTr (soR a k r f i)) (P := True) rfl trivial ?_
        refine gW_callV (m_pour (soR a k r f i) a (le6 (soR a k r f i)) i r (by omega) (by omega) (by omega)) lk_Tr_49 [0, 1] (gdec_at D_Tr_sortOut 23 rfl) (st := []) rfl rfl ⟨rfl, rfl⟩ (Nat.le_of_ble_eq_true rfl) rfl (by decide) rfl (Nat.le_of_ble_eq_true rfl) ⟨Nat.le_of_ble_eq_true rfl, Nat.le_of_ble_eq_true rfl⟩ ⟨Nat.le_of_ble_eq_true rfl, Nat.le_of_ble_eq_true rfl⟩ (gAft_r rfl rfl (h' := cTr (pourF (soR a k r f i) a (le6 (soR a k r f i)) i (pmI (soR a k r f i) a i r))) (st' := [.int (pmI (soR a k r f i) a i r)]) (pc' := 43) (cs' := 0) (ss' := 0) rfl rfl rfl rfl rfl ?_)
        refine gW_b D_Tr_sortOut 24 1 (pc' := 44) (l' := [(0, .ref 0), (1, .int (nI a)), (2, .int r), (3, .int (nI k)), (4, .int (nI i)), (5, .int (nI (le6 (soR a k r f i))))]) (st' := []) (h' := cTr (pourF (soR a k r f i) a (le6 (soR a k r f i)) i (pmI (soR a k r f i) a i r))) (P := True) rfl trivial ?_
        refine gW_l [0, 1, 2, 3, 4] (l' := [(0, .ref 0), (1, .int (nI a)), (2, .int r), (3, .int (nI k)), (4, .int (nI i))]) rfl ?_
        refine gW_b D_Tr_sortOut 25 2 (pc' := 9) (l' := [(0, .ref 0), (1, .int (nI a)), (2, .int r), (3, .int (nI k)), (4, .int ((nI i) + 1))]) (st' := []) (h' := cTr (pourF (soR a k r f i) a (le6 (soR a k r f i)) i (pmI (soR a k r f i) a i r))) (P := True) rfl trivial ?_
        rw [show ((nI i) + 1 : Int32) = nI (i + 1) from (gadd (rfl : nI i = nI i) (gk 1))]
        rw [show pourF (soR a k r f i) a (le6 (soR a k r f i)) i (pmI (soR a k r f i) a i r) = soR a k r f (i + 1) from ((if_neg c).trans (if_neg d)).symm]
        exact ih (i + 1) (by omega)
theorem m_sortOut (f : Nat → Int32) (a : Nat) (r : Int32) (ha : a < 6) : gM K_Tr_sortOut { frames := 2, locals := 48, cells := 0, slots := 0 } [.ref 0, .int (nI a), .int r] (cTr f) (gD (.inl none) (cTr (soR a (moc f a 3) r f 4))) := by
  refine gM_of rfl rfl (Nat.le_of_ble_eq_true rfl) (fun sc => ?_)
  refine gW_b D_Tr_sortOut 0 2 (pc' := 2) (l' := [(0, .ref 0), (1, .int (nI a)), (2, .int r)]) (st' := [.int (nI a), .ref 0]) (h' := cTr f) (P := True) rfl trivial ?_
  refine gW_callV (m_mostOf f a (by omega)) lk_Tr_42 [0, 1] (gdec_at D_Tr_sortOut 2 rfl) (st := []) rfl rfl ⟨rfl, rfl⟩ (Nat.le_of_ble_eq_true rfl) rfl (by decide) rfl (Nat.le_of_ble_eq_true rfl) ⟨Nat.le_of_ble_eq_true rfl, Nat.le_of_ble_eq_true rfl⟩ ⟨Nat.le_of_ble_eq_true rfl, Nat.le_of_ble_eq_true rfl⟩ (gAft_r rfl rfl (h' := cTr f) (st' := [.int (nI (moc f a 3))]) (pc' := 5) (cs' := 0) (ss' := 0) rfl rfl rfl rfl rfl ?_)
  refine gW_b D_Tr_sortOut 3 3 (pc' := 9) (l' := [(0, .ref 0), (1, .int (nI a)), (2, .int r), (3, .int (nI (moc f a 3))), (4, .int 0)]) (st' := []) (h' := cTr f) (P := True) rfl trivial ?_
  refine l_sortOut f a (moc f a 3) r ha (moc_le f a 3) ?_ 4 0 rfl
  exact gW_vret (gdec_at D_Tr_sortOut 27 rfl) rfl (Nat.le_of_ble_eq_true rfl) ⟨rfl, rfl⟩ (Nat.le_of_ble_eq_true rfl) (Nat.le_of_ble_eq_true rfl)
def tkI (f : Nat → Int32) (i t : Nat) (w g : Int32) : Int32 := if f (i * 4 + t) < w - g then f (i * 4 + t) else w - g
/-- takes tone t out of the trays i and on, w less g at most: the trays, and how many -/
def tkR (t : Nat) (w : Int32) : Nat → Nat → (Nat → Int32) → Int32 → (Nat → Int32) × Int32
  | 0, _, f, g => (f, g)
  | n + 1, i, f, g => if w ≤ g then (f, g) else if f (i * 4 + t) ≤ 0 then tkR t w n (i + 1) f g else if tn f i = 1 then tkR t w n (i + 1) (upd f (i * 4 + t) (f (i * 4 + t) + -(tkI f i t w g))) (g + tkI f i t w g) else tkR t w n (i + 1) f g
theorem l_takeReady (t : Nat) (w : Int32) (ht : t < 4) {sc : Nat × (Nat → Int32)} {n0 : Nat} (hn0 : n0 ≤ 2) : ∀ (n i : Nat) (f : Nat → Int32) (g : Int32), i + n = 6 → gW K_Tr_takeReady sc { frames := 1, locals := 23, cells := 0, slots := 0 } n0 (gD (.inl (some (.int (tkR t w n i f g).2))) (cTr (tkR t w n i f g).1)) 0 0 5 [(0, .ref 0), (1, .int (nI t)), (2, .int w), (3, .int g), (4, .int (nI i))] [] (cTr f) := by
  intro n
  induction n with
  | zero =>
    intro i f g hi
    obtain rfl : 6 = i := by omega
    refine gW_b D_Tr_takeReady 4 2 (pc' := 9) (l' := [(0, .ref 0), (1, .int (nI t)), (2, .int w), (3, .int g), (4, .int (nI 6))]) (st' := [.int 6, .int (nI 6)]) (h' := cTr f) (P := True) rfl trivial ?_
    refine gW_ic_ge (gdec_at D_Tr_takeReady 6 rfl) (tgt := 73) rfl (fun _ => ?_) (fun c => absurd ((gle (gk 6) (rfl : nI 6 = nI 6) (by omega) (by omega)).mpr (by omega)) c)
    refine gW_b D_Tr_takeReady 41 1 (pc' := 74) (l' := [(0, .ref 0), (1, .int (nI t)), (2, .int w), (3, .int g), (4, .int (nI 6))]) (st' := [.int g]) (h' := cTr f) (P := True) rfl trivial ?_
    exact gW_iret (gdec_at D_Tr_takeReady 42 rfl) rfl rfl hn0 ⟨rfl, rfl⟩ (Nat.le_of_ble_eq_true rfl) (Nat.le_of_ble_eq_true rfl)
  | succ n ih =>
    intro i f g hi
    have hb2 := tn_le f i
    refine gW_b D_Tr_takeReady 4 2 (pc' := 9) (l' := [(0, .ref 0), (1, .int (nI t)), (2, .int w), (3, .int g), (4, .int (nI i))]) (st' := [.int 6, .int (nI i)]) (h' := cTr f) (P := True) rfl trivial ?_
    refine gW_ic_ge (gdec_at D_Tr_takeReady 6 rfl) (tgt := 73) rfl (fun c => absurd c (mt (gle (gk 6) (rfl : nI i = nI i) (by omega) (by omega)).mp (by omega))) (fun _ => ?_)
    refine gW_b D_Tr_takeReady 7 2 (pc' := 14) (l' := [(0, .ref 0), (1, .int (nI t)), (2, .int w), (3, .int g), (4, .int (nI i))]) (st' := [.int w, .int g]) (h' := cTr f) (P := True) rfl trivial ?_
    refine gW_ic_ge (gdec_at D_Tr_takeReady 9 rfl) (tgt := 73) rfl (fun c => ?_) (fun c => ?_)
    · skip
      refine gW_b D_Tr_takeReady 41 1 (pc' := 74) (l' := [(0, .ref 0), (1, .int (nI t)), (2, .int w), (3, .int g), (4, .int (nI i))]) (st' := [.int g]) (h' := cTr f) (P := True) rfl trivial ?_
      rw [show tkR t w (n + 1) i f g = (f, g) from if_pos c]
      exact gW_iret (gdec_at D_Tr_takeReady 42 rfl) rfl rfl hn0 ⟨rfl, rfl⟩ (Nat.le_of_ble_eq_true rfl) (Nat.le_of_ble_eq_true rfl)
    · skip
      refine gW_b D_Tr_takeReady 10 3 (pc' := 21) (l' := [(0, .ref 0), (1, .int (nI t)), (2, .int w), (3, .int g), (4, .int (nI i))]) (st' := [.int (nI t), .int (nI i), .ref 0]) (h' := cTr f) (P := True) rfl trivial ?_
      refine gW_callV (m_held f i t (by omega) (by omega)) lk_Tr_19 [0, 1] (gdec_at D_Tr_takeReady 13 rfl) (st := []) rfl rfl ⟨rfl, rfl⟩ (Nat.le_of_ble_eq_true rfl) rfl (by decide) rfl (Nat.le_of_ble_eq_true rfl) ⟨Nat.le_of_ble_eq_true rfl, Nat.le_of_ble_eq_true rfl⟩ ⟨Nat.le_of_ble_eq_true rfl, Nat.le_of_ble_eq_true rfl⟩ (gAft_r rfl rfl (h' := cTr f) (st' := [.int (f (i * 4 + t))]) (pc' := 24) (cs' := 0) (ss' := 0) rfl rfl rfl rfl rfl ?_)
      refine gW_if_le (gdec_at D_Tr_takeReady 14 rfl) (tgt := 67) rfl (fun d => ?_) (fun d => ?_)
      · skip
        refine gW_l [0, 1, 2, 3, 4] (l' := [(0, .ref 0), (1, .int (nI t)), (2, .int w), (3, .int g), (4, .int (nI i))]) rfl ?_
        refine gW_b D_Tr_takeReady 39 2 (pc' := 5) (l' := [(0, .ref 0), (1, .int (nI t)), (2, .int w), (3, .int g), (4, .int ((nI i) + 1))]) (st' := []) (h' := cTr f) (P := True) rfl trivial ?_
        rw [show ((nI i) + 1 : Int32) = nI (i + 1) from (gadd (rfl : nI i = nI i) (gk 1))]
        rw [show tkR t w (n + 1) i f g = tkR t w n (i + 1) f g from (if_neg c).trans (if_pos d)]
        exact ih (i + 1) _ _ (by omega)
      · skip
        refine gW_b D_Tr_takeReady 15 2 (pc' := 30) (l' := [(0, .ref 0), (1, .int (nI t)), (2, .int w), (3, .int g), (4, .int (nI i))]) (st' := [.int (nI i), .ref 0]) (h' := cTr f) (P := True) rfl trivial ?_
        refine gW_callV (m_tonesIn f i (by omega)) lk_Tr_32 [0, 1] (gdec_at D_Tr_takeReady 17 rfl) (st := []) rfl rfl ⟨rfl, rfl⟩ (Nat.le_of_ble_eq_true rfl) rfl (by decide) rfl (Nat.le_of_ble_eq_true rfl) ⟨Nat.le_of_ble_eq_true rfl, Nat.le_of_ble_eq_true rfl⟩ ⟨Nat.le_of_ble_eq_true rfl, Nat.le_of_ble_eq_true rfl⟩ (gAft_r rfl rfl (h' := cTr f) (st' := [.int (nI (tn f i))]) (pc' := 33) (cs' := 0) (ss' := 0) rfl rfl rfl rfl rfl ?_)
        refine gW_b D_Tr_takeReady 18 1 (pc' := 34) (l' := [(0, .ref 0), (1, .int (nI t)), (2, .int w), (3, .int g), (4, .int (nI i))]) (st' := [.int 1, .int (nI (tn f i))]) (h' := cTr f) (P := True) rfl trivial ?_
        refine gW_ic_ne (gdec_at D_Tr_takeReady 19 rfl) (tgt := 67) rfl (fun e => ?_) (fun e => ?_)
        · have e := mt (geq (rfl : nI (tn f i) = nI (tn f i)) (gk 1) (by omega) (by omega)).mpr e
          refine gW_l [0, 1, 2, 3, 4] (l' := [(0, .ref 0), (1, .int (nI t)), (2, .int w), (3, .int g), (4, .int (nI i))]) rfl ?_
          refine gW_b D_Tr_takeReady 39 2 (pc' := 5) (l' := [(0, .ref 0), (1, .int (nI t)), (2, .int w), (3, .int g), (4, .int ((nI i) + 1))]) (st' := []) (h' := cTr f) (P := True) rfl trivial ?_
          rw [show ((nI i) + 1 : Int32) = nI (i + 1) from (gadd (rfl : nI i = nI i) (gk 1))]
          rw [show tkR t w (n + 1) i f g = tkR t w n (i + 1) f g from (if_neg c).trans ((if_neg d).trans (if_neg e))]
          exact ih (i + 1) _ _ (by omega)
        · have e := (geq (rfl : nI (tn f i) = nI (tn f i)) (gk 1) (by omega) (by omega)).mp e
          refine gW_b D_Tr_takeReady 20 6 (pc' := 44) (l' := [(0, .ref 0), (1, .int (nI t)), (2, .int w), (3, .int g), (4, .int (nI i))]) (st' := [.int (nI t), .int (nI i), .ref 0, .int (w - g)]) (h' := cTr f) (P := True) rfl trivial ?_
          refine gW_callV (m_held f i t (by omega) (by omega)) lk_Tr_19 [0, 1] (gdec_at D_Tr_takeReady 26 rfl) (st := [.int (w - g)]) rfl rfl ⟨rfl, rfl⟩ (Nat.le_of_ble_eq_true rfl) rfl (by decide) rfl (Nat.le_of_ble_eq_true rfl) ⟨Nat.le_of_ble_eq_true rfl, Nat.le_of_ble_eq_true rfl⟩ ⟨Nat.le_of_ble_eq_true rfl, Nat.le_of_ble_eq_true rfl⟩ (gAft_r rfl rfl (h' := cTr f) (st' := [.int (f (i * 4 + t)), .int (w - g)]) (pc' := 47) (cs' := 0) (ss' := 0) rfl rfl rfl rfl rfl ?_)
          refine gW_min (gmem 495 (by decide +kernel)) (gdec_at D_Tr_takeReady 27 rfl) (Nat.le_of_ble_eq_true rfl) (Nat.le_of_ble_eq_true rfl) (Nat.le_of_ble_eq_true rfl) (Nat.le_of_ble_eq_true rfl) ?_
          rw [show (if f (i * 4 + t) < w - g then f (i * 4 + t) else w - g : Int32) = tkI f i t w g from rfl]
          refine gW_b D_Tr_takeReady 28 6 (pc' := 59) (l' := [(0, .ref 0), (1, .int (nI t)), (2, .int w), (3, .int g), (4, .int (nI i)), (5, .int (tkI f i t w g))]) (st' := [.int (-(tkI f i t w g)), .int (nI t), .int (nI i), .ref 0]) (h' := cTr f) (P := True) rfl trivial ?_
          refine gW_callV (m_change f i t (-(tkI f i t w g)) (by omega) (by omega)) lk_Tr_38 [0, 1] (gdec_at D_Tr_takeReady 34 rfl) (st := []) rfl rfl ⟨rfl, rfl⟩ (Nat.le_of_ble_eq_true rfl) rfl (by decide) rfl (Nat.le_of_ble_eq_true rfl) ⟨Nat.le_of_ble_eq_true rfl, Nat.le_of_ble_eq_true rfl⟩ ⟨Nat.le_of_ble_eq_true rfl, Nat.le_of_ble_eq_true rfl⟩ (gAft_r rfl rfl (h' := cTr (upd f (i * 4 + t) ((f (i * 4 + t)) + (-(tkI f i t w g))))) (st' := []) (pc' := 62) (cs' := 0) (ss' := 0) rfl rfl rfl rfl rfl ?_)
          refine gW_b D_Tr_takeReady 35 4 (pc' := 67) (l' := [(0, .ref 0), (1, .int (nI t)), (2, .int w), (3, .int (g + (tkI f i t w g))), (4, .int (nI i)), (5, .int (tkI f i t w g))]) (st' := []) (h' := cTr (upd f (i * 4 + t) ((f (i * 4 + t)) + (-(tkI f i t w g))))) (P := True) rfl trivial ?_
          refine gW_l [0, 1, 2, 3, 4] (l' := [(0, .ref 0), (1, .int (nI t)), (2, .int w), (3, .int (g + (tkI f i t w g))), (4, .int (nI i))]) rfl ?_
          refine gW_b D_Tr_takeReady 39 2 (pc' := 5) (l' := [(0, .ref 0), (1, .int (nI t)), (2, .int w), (3, .int (g + (tkI f i t w g))), (4, .int ((nI i) + 1))]) (st' := []) (h' := cTr (upd f (i * 4 + t) ((f (i * 4 + t)) + (-(tkI f i t w g))))) (P := True) rfl trivial ?_
          rw [show ((nI i) + 1 : Int32) = nI (i + 1) from (gadd (rfl : nI i = nI i) (gk 1))]
          rw [show tkR t w (n + 1) i f g = tkR t w n (i + 1) (upd f (i * 4 + t) ((f (i * 4 + t)) + (-(tkI f i t w g)))) (g + tkI f i t w g) from (if_neg c).trans ((if_neg d).trans (if_pos e))]
          exact ih (i + 1) _ _ (by omega)
theorem m_takeReady (f : Nat → Int32) (t : Nat) (w : Int32) (ht : t < 4) : gM K_Tr_takeReady { frames := 1, locals := 23, cells := 0, slots := 0 } [.ref 0, .int (nI t), .int w] (cTr f) (gD (.inl (some (.int ((tkR t w 6 0 f 0).2)))) (cTr ((tkR t w 6 0 f 0).1))) := by
  refine gM_of rfl rfl (Nat.le_of_ble_eq_true rfl) (fun sc => ?_)
  refine gW_b D_Tr_takeReady 0 4 (pc' := 5) (l' := [(0, .ref 0), (1, .int (nI t)), (2, .int w), (3, .int 0), (4, .int 0)]) (st' := []) (h' := cTr f) (P := True) rfl trivial ?_
  exact l_takeReady t w ht (Nat.le_refl _) 6 0 f 0 rfl

theorem m_TrcopyFrom (f g : Nat → Int32) : gM K_Tr_copyFrom { frames := 2, locals := 61, cells := 0, slots := 0 } [.ref 0, .ref 2] ([cO 0 [.ref 1], cI 24 g, cO 0 [.ref 3], cI 24 f]) (gD (.inl none) ([cO 0 [.ref 1], cI 24 f, cO 0 [.ref 3], cI 24 f])) := by
  refine gM_of rfl rfl (Nat.le_of_ble_eq_true rfl) (fun sc => ?_)
  refine gW_b D_Tr_copyFrom 0 4 (pc' := 8) (l' := [(0, .ref 0), (1, .ref 2)]) (st' := [.ref 1, .ref 3]) (h' := [cO 0 [.ref 1], cI 24 g, cO 0 [.ref 3], cI 24 f]) (P := True) rfl trivial ?_
  refine gW_callS (m_copyRow 24 f g (by omega)) lk_Tr_15 [3, 1] (gdec_at D_Tr_copyFrom 4 rfl) (st := []) rfl rfl ⟨rfl, rfl⟩ (Nat.le_of_ble_eq_true rfl) (Nat.le_of_ble_eq_true rfl) ⟨Nat.le_of_ble_eq_true rfl, Nat.le_of_ble_eq_true rfl⟩ ⟨Nat.le_of_ble_eq_true rfl, Nat.le_of_ble_eq_true rfl⟩ (gAft_r rfl rfl (h' := [cO 0 [.ref 1], cI 24 f, cO 0 [.ref 3], cI 24 f]) (st' := []) (pc' := 11) (cs' := 0) (ss' := 0) rfl rfl rfl rfl rfl ?_)
  exact gW_vret (gdec_at D_Tr_copyFrom 5 rfl) rfl (Nat.le_of_ble_eq_true rfl) ⟨rfl, rfl⟩ (Nat.le_of_ble_eq_true rfl) (Nat.le_of_ble_eq_true rfl)
end
section
/-! GoldSheets$Sections. Printed by wip/whole/meths2.py -/
abbrev cSe (g : Nat → Int32) (sz : Nat) (c : Int32) : gH := [cO 1 [.ref 1, .int (nI sz), .int c], cI 50 g]

theorem m_valueOf (g : Nat → Int32) (sz : Nat) (c : Int32) (p k : Nat) (hs : sz ≤ 10) (hp : p < sz) (hk : k < 5) : gM K_Se_valueOf { frames := 0, locals := 0, cells := 0, slots := 0 } [.ref 0, .int (nI p), .int (nI k)] (cSe g sz c) (gD (.inl (some (.int (g (p * 5 + k))))) (cSe g sz c)) := by
  refine gM_of rfl rfl (Nat.le_of_ble_eq_true rfl) (fun sc => ?_)
  refine gW_b D_Se_valueOf 0 1 (pc' := 1) (l' := [(0, .ref 0), (1, .int (nI p)), (2, .int (nI k))]) (st' := [.int (nI p)]) (h' := cSe g sz c) (P := True) rfl trivial ?_
  refine gW_if_lt (gdec_at D_Se_valueOf 1 rfl) (tgt := 25) rfl (fun c => absurd c (nI_pos (n := p) (by omega))) (fun _ => ?_)
  refine gW_b D_Se_valueOf 2 3 (pc' := 9) (l' := [(0, .ref 0), (1, .int (nI p)), (2, .int (nI k))]) (st' := [.int (nI sz), .int (nI p)]) (h' := cSe g sz c) (P := True) rfl trivial ?_
  refine gW_ic_ge (gdec_at D_Se_valueOf 5 rfl) (tgt := 25) rfl (fun c => absurd c (mt (gle (rfl : nI sz = nI sz) (rfl : nI p = nI p) (by omega) (by omega)).mp (by omega))) (fun _ => ?_)
  refine gW_b D_Se_valueOf 6 1 (pc' := 13) (l' := [(0, .ref 0), (1, .int (nI p)), (2, .int (nI k))]) (st' := [.int (nI k)]) (h' := cSe g sz c) (P := True) rfl trivial ?_
  refine gW_if_lt (gdec_at D_Se_valueOf 7 rfl) (tgt := 25) rfl (fun c => absurd c (nI_pos (n := k) (by omega))) (fun _ => ?_)
  refine gW_b D_Se_valueOf 8 2 (pc' := 18) (l' := [(0, .ref 0), (1, .int (nI p)), (2, .int (nI k))]) (st' := [.int 5, .int (nI k)]) (h' := cSe g sz c) (P := True) rfl trivial ?_
  refine gW_ic_ge (gdec_at D_Se_valueOf 10 rfl) (tgt := 25) rfl (fun c => absurd c (mt (gle (gk 5) (rfl : nI k = nI k) (by omega) (by omega)).mp (by omega))) (fun _ => ?_)
  refine gW_b D_Se_valueOf 11 2 (pc' := 26) (l' := [(0, .ref 0), (1, .int (nI p)), (2, .int (nI k))]) (st' := [.int 1]) (h' := cSe g sz c) (P := True) rfl trivial ?_
  refine gW_b D_Se_valueOf 14 2 (pc' := 28) (l' := [(0, .ref 0), (1, .int (nI p)), (2, .int (nI k)), (3, .int 1)]) (st' := [.int 1]) (h' := cSe g sz c) (P := True) rfl trivial ?_
  refine gW_if_eq (gdec_at D_Se_valueOf 16 rfl) (tgt := 44) rfl (fun c => absurd c (by decide)) (fun _ => ?_)
  refine gW_b D_Se_valueOf 17 9 (pc' := 45) (l' := [(0, .ref 0), (1, .int (nI p)), (2, .int (nI k)), (3, .int 1)]) (st' := [.int (g ((((nI p) * 5) + (nI k)).toNatClampNeg))]) (h' := cSe g sz c) (P := vp_in (((nI p) * 5) + (nI k)) 50 ∧ True) rfl ⟨(gvin (gadd (gmul (rfl : nI p = nI p) (gk 5)) (rfl : nI k = nI k)) (by omega) (by omega)), trivial⟩ ?_
  rw [show (((nI p) * 5) + (nI k)).toNatClampNeg = ((p * 5) + k) from gclp (gadd (gmul (rfl : nI p = nI p) (gk 5)) (rfl : nI k = nI k)) (by omega)]
  exact gW_iret (gdec_at D_Se_valueOf 27 rfl) rfl rfl (Nat.le_of_ble_eq_true rfl) ⟨rfl, rfl⟩ (Nat.le_of_ble_eq_true rfl) (Nat.le_of_ble_eq_true rfl)

theorem m_put (g : Nat → Int32) (sz : Nat) (c : Int32) (p k : Nat) (v : Int32) (hs : sz ≤ 10) (hp : p < sz) (hk : k < 5) : gM K_Se_put { frames := 0, locals := 0, cells := 0, slots := 0 } [.ref 0, .int (nI p), .int (nI k), .int v] (cSe g sz c) (gD (.inl none) (cSe (upd g (p * 5 + k) v) sz c)) := by
  refine gM_of rfl rfl (Nat.le_of_ble_eq_true rfl) (fun sc => ?_)
  refine gW_b D_Se_put 0 1 (pc' := 1) (l' := [(0, .ref 0), (1, .int (nI p)), (2, .int (nI k)), (3, .int v)]) (st' := [.int (nI p)]) (h' := cSe g sz c) (P := True) rfl trivial ?_
  refine gW_if_lt (gdec_at D_Se_put 1 rfl) (tgt := 32) rfl (fun c => absurd c (nI_pos (n := p) (by omega))) (fun _ => ?_)
  refine gW_b D_Se_put 2 3 (pc' := 9) (l' := [(0, .ref 0), (1, .int (nI p)), (2, .int (nI k)), (3, .int v)]) (st' := [.int (nI sz), .int (nI p)]) (h' := cSe g sz c) (P := True) rfl trivial ?_
  refine gW_ic_ge (gdec_at D_Se_put 5 rfl) (tgt := 32) rfl (fun c => absurd c (mt (gle (rfl : nI sz = nI sz) (rfl : nI p = nI p) (by omega) (by omega)).mp (by omega))) (fun _ => ?_)
  refine gW_b D_Se_put 6 1 (pc' := 13) (l' := [(0, .ref 0), (1, .int (nI p)), (2, .int (nI k)), (3, .int v)]) (st' := [.int (nI k)]) (h' := cSe g sz c) (P := True) rfl trivial ?_
  refine gW_if_lt (gdec_at D_Se_put 7 rfl) (tgt := 32) rfl (fun c => absurd c (nI_pos (n := k) (by omega))) (fun _ => ?_)
  refine gW_b D_Se_put 8 2 (pc' := 18) (l' := [(0, .ref 0), (1, .int (nI p)), (2, .int (nI k)), (3, .int v)]) (st' := [.int 5, .int (nI k)]) (h' := cSe g sz c) (P := True) rfl trivial ?_
  refine gW_ic_ge (gdec_at D_Se_put 10 rfl) (tgt := 32) rfl (fun c => absurd c (mt (gle (gk 5) (rfl : nI k = nI k) (by omega) (by omega)).mp (by omega))) (fun _ => ?_)
  refine gW_b D_Se_put 11 9 (pc' := 32) (l' := [(0, .ref 0), (1, .int (nI p)), (2, .int (nI k)), (3, .int v)]) (st' := []) (h' := cSe (upd g ((((nI p) * 5) + (nI k)).toNatClampNeg) v) sz c) (P := vp_in (((nI p) * 5) + (nI k)) 50 ∧ True) rfl ⟨(gvin (gadd (gmul (rfl : nI p = nI p) (gk 5)) (rfl : nI k = nI k)) (by omega) (by omega)), trivial⟩ ?_
  rw [show (((nI p) * 5) + (nI k)).toNatClampNeg = ((p * 5) + k) from gclp (gadd (gmul (rfl : nI p = nI p) (gk 5)) (rfl : nI k = nI k)) (by omega)]
  exact gW_vret (gdec_at D_Se_put 20 rfl) rfl (Nat.le_of_ble_eq_true rfl) ⟨rfl, rfl⟩ (Nat.le_of_ble_eq_true rfl) (Nat.le_of_ble_eq_true rfl)
def layF (g : Nat → Int32) (p : Nat) (v : Int32) : Nat → Int32 := upd (upd g (p * 5 + 2) (g (p * 5 + 2) - v)) (p * 5 + 4) (upd g (p * 5 + 2) (g (p * 5 + 2) - v) (p * 5 + 4) + v)

theorem m_lay (g : Nat → Int32) (sz : Nat) (c : Int32) (p : Nat) (v : Int32) (hs : sz ≤ 10) (hp : p < sz) : gM K_Se_lay { frames := 1, locals := 23, cells := 0, slots := 0 } [.ref 0, .int (nI p), .int v] (cSe g sz c) (gD (.inl none) (cSe (layF g p v) sz c)) := by
  refine gM_of rfl rfl (Nat.le_of_ble_eq_true rfl) (fun sc => ?_)
  refine gW_b D_Se_lay 0 6 (pc' := 6) (l' := [(0, .ref 0), (1, .int (nI p)), (2, .int v)]) (st' := [.int 2, .int (nI p), .ref 0, .int 2, .int (nI p), .ref 0]) (h' := cSe g sz c) (P := True) rfl trivial ?_
  refine gW_callV (m_valueOf g sz c p 2 (by omega) (by omega) (by omega)) lk_Se_26 [0, 1] (gdec_at D_Se_lay 6 rfl) (st := [.int 2, .int (nI p), .ref 0]) rfl rfl ⟨rfl, rfl⟩ (Nat.le_of_ble_eq_true rfl) rfl (by decide) rfl (Nat.le_of_ble_eq_true rfl) ⟨Nat.le_of_ble_eq_true rfl, Nat.le_of_ble_eq_true rfl⟩ ⟨Nat.le_of_ble_eq_true rfl, Nat.le_of_ble_eq_true rfl⟩ (gAft_r rfl rfl (h' := cSe g sz c) (st' := [.int (g (p * 5 + 2)), .int 2, .int (nI p), .ref 0]) (pc' := 9) (cs' := 0) (ss' := 0) rfl rfl rfl rfl rfl ?_)
  refine gW_b D_Se_lay 7 2 (pc' := 11) (l' := [(0, .ref 0), (1, .int (nI p)), (2, .int v)]) (st' := [.int ((g (p * 5 + 2)) - v), .int 2, .int (nI p), .ref 0]) (h' := cSe g sz c) (P := True) rfl trivial ?_
  refine gW_callV (m_put g sz c p 2 ((g (p * 5 + 2)) - v) (by omega) (by omega) (by omega)) lk_Se_30 [0, 1] (gdec_at D_Se_lay 9 rfl) (st := []) rfl rfl ⟨rfl, rfl⟩ (Nat.le_of_ble_eq_true rfl) rfl (by decide) rfl (Nat.le_of_ble_eq_true rfl) ⟨Nat.le_of_ble_eq_true rfl, Nat.le_of_ble_eq_true rfl⟩ ⟨Nat.le_of_ble_eq_true rfl, Nat.le_of_ble_eq_true rfl⟩ (gAft_r rfl rfl (h' := cSe (upd g (p * 5 + 2) ((g (p * 5 + 2)) - v)) sz c) (st' := []) (pc' := 14) (cs' := 0) (ss' := 0) rfl rfl rfl rfl rfl ?_)
  refine gW_b D_Se_lay 10 6 (pc' := 20) (l' := [(0, .ref 0), (1, .int (nI p)), (2, .int v)]) (st' := [.int 4, .int (nI p), .ref 0, .int 4, .int (nI p), .ref 0]) (h' := cSe (upd g (p * 5 + 2) ((g (p * 5 + 2)) - v)) sz c) (P := True) rfl trivial ?_
  refine gW_callV (m_valueOf (upd g (p * 5 + 2) ((g (p * 5 + 2)) - v)) sz c p 4 (by omega) (by omega) (by omega)) lk_Se_26 [0, 1] (gdec_at D_Se_lay 16 rfl) (st := [.int 4, .int (nI p), .ref 0]) rfl rfl ⟨rfl, rfl⟩ (Nat.le_of_ble_eq_true rfl) rfl (by decide) rfl (Nat.le_of_ble_eq_true rfl) ⟨Nat.le_of_ble_eq_true rfl, Nat.le_of_ble_eq_true rfl⟩ ⟨Nat.le_of_ble_eq_true rfl, Nat.le_of_ble_eq_true rfl⟩ (gAft_r rfl rfl (h' := cSe (upd g (p * 5 + 2) ((g (p * 5 + 2)) - v)) sz c) (st' := [.int ((upd g (p * 5 + 2) ((g (p * 5 + 2)) - v)) (p * 5 + 4)), .int 4, .int (nI p), .ref 0]) (pc' := 23) (cs' := 0) (ss' := 0) rfl rfl rfl rfl rfl ?_)
  refine gW_b D_Se_lay 17 2 (pc' := 25) (l' := [(0, .ref 0), (1, .int (nI p)), (2, .int v)]) (st' := [.int (((upd g (p * 5 + 2) ((g (p * 5 + 2)) - v)) (p * 5 + 4)) + v), .int 4, .int (nI p), .ref 0]) (h' := cSe (upd g (p * 5 + 2) ((g (p * 5 + 2)) - v)) sz c) (P := True) rfl trivial ?_
  refine gW_callV (m_put (upd g (p * 5 + 2) ((g (p * 5 + 2)) - v)) sz c p 4 (((upd g (p * 5 + 2) ((g (p * 5 + 2)) - v)) (p * 5 + 4)) + v) (by omega) (by omega) (by omega)) lk_Se_30 [0, 1] (gdec_at D_Se_lay 19 rfl) (st := []) rfl rfl ⟨rfl, rfl⟩ (Nat.le_of_ble_eq_true rfl) rfl (by decide) rfl (Nat.le_of_ble_eq_true rfl) ⟨Nat.le_of_ble_eq_true rfl, Nat.le_of_ble_eq_true rfl⟩ ⟨Nat.le_of_ble_eq_true rfl, Nat.le_of_ble_eq_true rfl⟩ (gAft_r rfl rfl (h' := cSe (upd (upd g (p * 5 + 2) ((g (p * 5 + 2)) - v)) (p * 5 + 4) (((upd g (p * 5 + 2) ((g (p * 5 + 2)) - v)) (p * 5 + 4)) + v)) sz c) (st' := []) (pc' := 28) (cs' := 0) (ss' := 0) rfl rfl rfl rfl rfl ?_)
  exact gW_vret (gdec_at D_Se_lay 20 rfl) rfl (Nat.le_of_ble_eq_true rfl) ⟨rfl, rfl⟩ (Nat.le_of_ble_eq_true rfl) (Nat.le_of_ble_eq_true rfl)
/-- the section at place p comes before that at o: by cell k, of several the lower number -/
def cb (k : Nat) (g : Nat → Int32) (p o : Nat) : Bool := if g (p * 5 + k) = g (o * 5 + k) then decide (g (p * 5 + 0) < g (o * 5 + 0)) else decide (g (p * 5 + k) < g (o * 5 + k))
theorem cb_1 {k : Nat} {g : Nat → Int32} {p o : Nat} (h : ¬ g (p * 5 + k) = g (o * 5 + k)) (h2 : g (p * 5 + k) < g (o * 5 + k)) : bI (cb k g p o) = 1 := by simp [cb, h, h2, bI]
theorem cb_2 {k : Nat} {g : Nat → Int32} {p o : Nat} (h : ¬ g (p * 5 + k) = g (o * 5 + k)) (h2 : ¬ g (p * 5 + k) < g (o * 5 + k)) : bI (cb k g p o) = 0 := by simp [cb, h, h2, bI]
theorem cb_3 {k : Nat} {g : Nat → Int32} {p o : Nat} (h : g (p * 5 + k) = g (o * 5 + k)) (h2 : g (p * 5 + 0) < g (o * 5 + 0)) : bI (cb k g p o) = 1 := by
  unfold cb
  rw [if_pos h, decide_eq_true h2]
  rfl
theorem cb_4 {k : Nat} {g : Nat → Int32} {p o : Nat} (h : g (p * 5 + k) = g (o * 5 + k)) (h2 : ¬ g (p * 5 + 0) < g (o * 5 + 0)) : bI (cb k g p o) = 0 := by
  unfold cb
  rw [if_pos h, decide_eq_false h2]
  rfl

theorem m_comesBefore (g : Nat → Int32) (sz : Nat) (c : Int32) (p o k : Nat) (hs : sz ≤ 10) (hp : p < sz) (ho : o < sz) (hk : k < 5) : gM K_Se_comesBefore { frames := 1, locals := 23, cells := 0, slots := 0 } [.ref 0, .int (nI p), .int (nI o), .int (nI k)] (cSe g sz c) (gD (.inl (some (.int (bI (cb k g p o))))) (cSe g sz c)) := by
  refine gM_of rfl rfl (Nat.le_of_ble_eq_true rfl) (fun sc => ?_)
  refine gW_b D_Se_comesBefore 0 3 (pc' := 3) (l' := [(0, .ref 0), (1, .int (nI p)), (2, .int (nI o)), (3, .int (nI k))]) (st' := [.int (nI k), .int (nI p), .ref 0]) (h' := cSe g sz c) (P := True) rfl trivial ?_
  refine gW_callV (m_valueOf g sz c p k (by omega) (by omega) (by omega)) lk_Se_26 [0, 1] (gdec_at D_Se_comesBefore 3 rfl) (st := []) rfl rfl ⟨rfl, rfl⟩ (Nat.le_of_ble_eq_true rfl) rfl (by decide) rfl (Nat.le_of_ble_eq_true rfl) ⟨Nat.le_of_ble_eq_true rfl, Nat.le_of_ble_eq_true rfl⟩ ⟨Nat.le_of_ble_eq_true rfl, Nat.le_of_ble_eq_true rfl⟩ (gAft_r rfl rfl (h' := cSe g sz c) (st' := [.int (g (p * 5 + k))]) (pc' := 6) (cs' := 0) (ss' := 0) rfl rfl rfl rfl rfl ?_)
  refine gW_b D_Se_comesBefore 4 4 (pc' := 11) (l' := [(0, .ref 0), (1, .int (nI p)), (2, .int (nI o)), (3, .int (nI k)), (4, .int (g (p * 5 + k)))]) (st' := [.int (nI k), .int (nI o), .ref 0]) (h' := cSe g sz c) (P := True) rfl trivial ?_
  refine gW_callV (m_valueOf g sz c o k (by omega) (by omega) (by omega)) lk_Se_26 [0, 1] (gdec_at D_Se_comesBefore 8 rfl) (st := []) rfl rfl ⟨rfl, rfl⟩ (Nat.le_of_ble_eq_true rfl) rfl (by decide) rfl (Nat.le_of_ble_eq_true rfl) ⟨Nat.le_of_ble_eq_true rfl, Nat.le_of_ble_eq_true rfl⟩ ⟨Nat.le_of_ble_eq_true rfl, Nat.le_of_ble_eq_true rfl⟩ (gAft_r rfl rfl (h' := cSe g sz c) (st' := [.int (g (o * 5 + k))]) (pc' := 14) (cs' := 0) (ss' := 0) rfl rfl rfl rfl rfl ?_)
  refine gW_b D_Se_comesBefore 9 3 (pc' := 20) (l' := [(0, .ref 0), (1, .int (nI p)), (2, .int (nI o)), (3, .int (nI k)), (4, .int (g (p * 5 + k))), (5, .int (g (o * 5 + k)))]) (st' := [.int (g (o * 5 + k)), .int (g (p * 5 + k))]) (h' := cSe g sz c) (P := True) rfl trivial ?_
  refine gW_ic_eq (gdec_at D_Se_comesBefore 12 rfl) (tgt := 38) rfl (fun d0 => ?_) (fun d0 => ?_)
  · skip
    refine gW_b D_Se_comesBefore 20 3 (pc' := 41) (l' := [(0, .ref 0), (1, .int (nI p)), (2, .int (nI o)), (3, .int (nI k)), (4, .int (g (p * 5 + k))), (5, .int (g (o * 5 + k)))]) (st' := [.int 0, .int (nI p), .ref 0]) (h' := cSe g sz c) (P := True) rfl trivial ?_
    refine gW_callV (m_valueOf g sz c p 0 (by omega) (by omega) (by omega)) lk_Se_26 [0, 1] (gdec_at D_Se_comesBefore 23 rfl) (st := []) rfl rfl ⟨rfl, rfl⟩ (Nat.le_of_ble_eq_true rfl) rfl (by decide) rfl (Nat.le_of_ble_eq_true rfl) ⟨Nat.le_of_ble_eq_true rfl, Nat.le_of_ble_eq_true rfl⟩ ⟨Nat.le_of_ble_eq_true rfl, Nat.le_of_ble_eq_true rfl⟩ (gAft_r rfl rfl (h' := cSe g sz c) (st' := [.int (g (p * 5 + 0))]) (pc' := 44) (cs' := 0) (ss' := 0) rfl rfl rfl rfl rfl ?_)
    refine gW_b D_Se_comesBefore 24 3 (pc' := 47) (l' := [(0, .ref 0), (1, .int (nI p)), (2, .int (nI o)), (3, .int (nI k)), (4, .int (g (p * 5 + k))), (5, .int (g (o * 5 + k)))]) (st' := [.int 0, .int (nI o), .ref 0, .int (g (p * 5 + 0))]) (h' := cSe g sz c) (P := True) rfl trivial ?_
    refine gW_callV (m_valueOf g sz c o 0 (by omega) (by omega) (by omega)) lk_Se_26 [0, 1] (gdec_at D_Se_comesBefore 27 rfl) (st := [.int (g (p * 5 + 0))]) rfl rfl ⟨rfl, rfl⟩ (Nat.le_of_ble_eq_true rfl) rfl (by decide) rfl (Nat.le_of_ble_eq_true rfl) ⟨Nat.le_of_ble_eq_true rfl, Nat.le_of_ble_eq_true rfl⟩ ⟨Nat.le_of_ble_eq_true rfl, Nat.le_of_ble_eq_true rfl⟩ (gAft_r rfl rfl (h' := cSe g sz c) (st' := [.int (g (o * 5 + 0)), .int (g (p * 5 + 0))]) (pc' := 50) (cs' := 0) (ss' := 0) rfl rfl rfl rfl rfl ?_)
    refine gW_ic_ge (gdec_at D_Se_comesBefore 28 rfl) (tgt := 57) rfl (fun d => ?_) (fun d => ?_)
    · skip
      refine gW_b D_Se_comesBefore 31 1 (pc' := 58) (l' := [(0, .ref 0), (1, .int (nI p)), (2, .int (nI o)), (3, .int (nI k)), (4, .int (g (p * 5 + k))), (5, .int (g (o * 5 + k)))]) (st' := [.int 0]) (h' := cSe g sz c) (P := True) rfl trivial ?_
      rw [cb_4 d0 (Int32.not_lt.mpr d)]
      exact gW_iret (gdec_at D_Se_comesBefore 32 rfl) rfl rfl (Nat.le_of_ble_eq_true rfl) ⟨rfl, rfl⟩ (Nat.le_of_ble_eq_true rfl) (Nat.le_of_ble_eq_true rfl)
    · skip
      refine gW_b D_Se_comesBefore 29 2 (pc' := 58) (l' := [(0, .ref 0), (1, .int (nI p)), (2, .int (nI o)), (3, .int (nI k)), (4, .int (g (p * 5 + k))), (5, .int (g (o * 5 + k)))]) (st' := [.int 1]) (h' := cSe g sz c) (P := True) rfl trivial ?_
      rw [cb_3 d0 (Int32.not_le.mp d)]
      exact gW_iret (gdec_at D_Se_comesBefore 32 rfl) rfl rfl (Nat.le_of_ble_eq_true rfl) ⟨rfl, rfl⟩ (Nat.le_of_ble_eq_true rfl) (Nat.le_of_ble_eq_true rfl)
  · skip
    refine gW_b D_Se_comesBefore 13 2 (pc' := 27) (l' := [(0, .ref 0), (1, .int (nI p)), (2, .int (nI o)), (3, .int (nI k)), (4, .int (g (p * 5 + k))), (5, .int (g (o * 5 + k)))]) (st' := [.int (g (o * 5 + k)), .int (g (p * 5 + k))]) (h' := cSe g sz c) (P := True) rfl trivial ?_
    refine gW_ic_ge (gdec_at D_Se_comesBefore 15 rfl) (tgt := 34) rfl (fun d => ?_) (fun d => ?_)
    · skip
      refine gW_b D_Se_comesBefore 18 2 (pc' := 58) (l' := [(0, .ref 0), (1, .int (nI p)), (2, .int (nI o)), (3, .int (nI k)), (4, .int (g (p * 5 + k))), (5, .int (g (o * 5 + k)))]) (st' := [.int 0]) (h' := cSe g sz c) (P := True) rfl trivial ?_
      rw [cb_2 d0 (Int32.not_lt.mpr d)]
      exact gW_iret (gdec_at D_Se_comesBefore 32 rfl) rfl rfl (Nat.le_of_ble_eq_true rfl) ⟨rfl, rfl⟩ (Nat.le_of_ble_eq_true rfl) (Nat.le_of_ble_eq_true rfl)
    · skip
      refine gW_b D_Se_comesBefore 16 2 (pc' := 58) (l' := [(0, .ref 0), (1, .int (nI p)), (2, .int (nI o)), (3, .int (nI k)), (4, .int (g (p * 5 + k))), (5, .int (g (o * 5 + k)))]) (st' := [.int 1]) (h' := cSe g sz c) (P := True) rfl trivial ?_
      rw [cb_1 d0 (Int32.not_le.mp d)]
      exact gW_iret (gdec_at D_Se_comesBefore 32 rfl) rfl rfl (Nat.le_of_ble_eq_true rfl) ⟨rfl, rfl⟩ (Nat.le_of_ble_eq_true rfl) (Nat.le_of_ble_eq_true rfl)
def swS (g : Nat → Int32) (p o k : Nat) : Nat → Int32 := upd (upd g (p * 5 + k) (g (o * 5 + k))) (o * 5 + k) (g (p * 5 + k))
def swapF (g : Nat → Int32) (p o : Nat) : Nat → Int32 := swS (swS (swS (swS (swS g p o 0) p o 1) p o 2) p o 3) p o 4

theorem m_swap (g : Nat → Int32) (sz : Nat) (c : Int32) (p o : Nat) (hs : sz ≤ 10) (hp : p < sz) (ho : o < sz) : gM K_Se_swap { frames := 1, locals := 23, cells := 0, slots := 0 } [.ref 0, .int (nI p), .int (nI o)] (cSe g sz c) (gD (.inl none) (cSe (swapF g p o) sz c)) := by
  refine gM_of rfl rfl (Nat.le_of_ble_eq_true rfl) (fun sc => ?_)
  refine gW_b D_Se_swap 0 4 (pc' := 4) (l' := [(0, .ref 0), (1, .int (nI p)), (2, .int (nI o)), (3, .int 0)]) (st' := [.int 5, .int 0]) (h' := cSe g sz c) (P := True) rfl trivial ?_
  refine gW_ic_ge (gdec_at D_Se_swap 4 rfl) (tgt := 41) rfl (fun c => absurd c (by decide)) (fun _ => ?_)
  refine gW_b D_Se_swap 5 3 (pc' := 10) (l' := [(0, .ref 0), (1, .int (nI p)), (2, .int (nI o)), (3, .int 0)]) (st' := [.int 0, .int (nI p), .ref 0]) (h' := cSe g sz c) (P := True) rfl trivial ?_
  refine gW_callV (m_valueOf g sz c p 0 (by omega) (by omega) (by omega)) lk_Se_26 [0, 1] (gdec_at D_Se_swap 8 rfl) (st := []) rfl rfl ⟨rfl, rfl⟩ (Nat.le_of_ble_eq_true rfl) rfl (by decide) rfl (Nat.le_of_ble_eq_true rfl) ⟨Nat.le_of_ble_eq_true rfl, Nat.le_of_ble_eq_true rfl⟩ ⟨Nat.le_of_ble_eq_true rfl, Nat.le_of_ble_eq_true rfl⟩ (gAft_r rfl rfl (h' := cSe g sz c) (st' := [.int (g (p * 5 + 0))]) (pc' := 13) (cs' := 0) (ss' := 0) rfl rfl rfl rfl rfl ?_)
  refine gW_b D_Se_swap 9 7 (pc' := 21) (l' := [(0, .ref 0), (1, .int (nI p)), (2, .int (nI o)), (3, .int 0), (4, .int (g (p * 5 + 0)))]) (st' := [.int 0, .int (nI o), .ref 0, .int 0, .int (nI p), .ref 0]) (h' := cSe g sz c) (P := True) rfl trivial ?_
  refine gW_callV (m_valueOf g sz c o 0 (by omega) (by omega) (by omega)) lk_Se_26 [0, 1] (gdec_at D_Se_swap 16 rfl) (st := [.int 0, .int (nI p), .ref 0]) rfl rfl ⟨rfl, rfl⟩ (Nat.le_of_ble_eq_true rfl) rfl (by decide) rfl (Nat.le_of_ble_eq_true rfl) ⟨Nat.le_of_ble_eq_true rfl, Nat.le_of_ble_eq_true rfl⟩ ⟨Nat.le_of_ble_eq_true rfl, Nat.le_of_ble_eq_true rfl⟩ (gAft_r rfl rfl (h' := cSe g sz c) (st' := [.int (g (o * 5 + 0)), .int 0, .int (nI p), .ref 0]) (pc' := 24) (cs' := 0) (ss' := 0) rfl rfl rfl rfl rfl ?_)
  refine gW_callV (m_put g sz c p 0 (g (o * 5 + 0)) (by omega) (by omega) (by omega)) lk_Se_30 [0, 1] (gdec_at D_Se_swap 17 rfl) (st := []) rfl rfl ⟨rfl, rfl⟩ (Nat.le_of_ble_eq_true rfl) rfl (by decide) rfl (Nat.le_of_ble_eq_true rfl) ⟨Nat.le_of_ble_eq_true rfl, Nat.le_of_ble_eq_true rfl⟩ ⟨Nat.le_of_ble_eq_true rfl, Nat.le_of_ble_eq_true rfl⟩ (gAft_r rfl rfl (h' := cSe (upd g (p * 5 + 0) (g (o * 5 + 0))) sz c) (st' := []) (pc' := 27) (cs' := 0) (ss' := 0) rfl rfl rfl rfl rfl ?_)
  refine gW_b D_Se_swap 18 4 (pc' := 32) (l' := [(0, .ref 0), (1, .int (nI p)), (2, .int (nI o)), (3, .int 0), (4, .int (g (p * 5 + 0)))]) (st' := [.int (g (p * 5 + 0)), .int 0, .int (nI o), .ref 0]) (h' := cSe (upd g (p * 5 + 0) (g (o * 5 + 0))) sz c) (P := True) rfl trivial ?_
  refine gW_callV (m_put (upd g (p * 5 + 0) (g (o * 5 + 0))) sz c o 0 (g (p * 5 + 0)) (by omega) (by omega) (by omega)) lk_Se_30 [0, 1] (gdec_at D_Se_swap 22 rfl) (st := []) rfl rfl ⟨rfl, rfl⟩ (Nat.le_of_ble_eq_true rfl) rfl (by decide) rfl (Nat.le_of_ble_eq_true rfl) ⟨Nat.le_of_ble_eq_true rfl, Nat.le_of_ble_eq_true rfl⟩ ⟨Nat.le_of_ble_eq_true rfl, Nat.le_of_ble_eq_true rfl⟩ (gAft_r rfl rfl (h' := cSe (swS g p o 0) sz c) (st' := []) (pc' := 35) (cs' := 0) (ss' := 0) rfl rfl rfl rfl rfl ?_)
  refine gW_b D_Se_swap 23 2 (pc' := 2) (l' := [(0, .ref 0), (1, .int (nI p)), (2, .int (nI o)), (3, .int 1), (4, .int (g (p * 5 + 0)))]) (st' := []) (h' := cSe (swS g p o 0) sz c) (P := True) rfl trivial ?_
  refine gW_b D_Se_swap 2 2 (pc' := 4) (l' := [(0, .ref 0), (1, .int (nI p)), (2, .int (nI o)), (3, .int 1), (4, .int (g (p * 5 + 0)))]) (st' := [.int 5, .int 1]) (h' := cSe (swS g p o 0) sz c) (P := True) rfl trivial ?_
  refine gW_ic_ge (gdec_at D_Se_swap 4 rfl) (tgt := 41) rfl (fun c => absurd c (by decide)) (fun _ => ?_)
  refine gW_b D_Se_swap 5 3 (pc' := 10) (l' := [(0, .ref 0), (1, .int (nI p)), (2, .int (nI o)), (3, .int 1), (4, .int (g (p * 5 + 0)))]) (st' := [.int 1, .int (nI p), .ref 0]) (h' := cSe (swS g p o 0) sz c) (P := True) rfl trivial ?_
  refine gW_callV (m_valueOf (swS g p o 0) sz c p 1 (by omega) (by omega) (by omega)) lk_Se_26 [0, 1] (gdec_at D_Se_swap 8 rfl) (st := []) rfl rfl ⟨rfl, rfl⟩ (Nat.le_of_ble_eq_true rfl) rfl (by decide) rfl (Nat.le_of_ble_eq_true rfl) ⟨Nat.le_of_ble_eq_true rfl, Nat.le_of_ble_eq_true rfl⟩ ⟨Nat.le_of_ble_eq_true rfl, Nat.le_of_ble_eq_true rfl⟩ (gAft_r rfl rfl (h' := cSe (swS g p o 0) sz c) (st' := [.int ((swS g p o 0) (p * 5 + 1))]) (pc' := 13) (cs' := 0) (ss' := 0) rfl rfl rfl rfl rfl ?_)
  refine gW_b D_Se_swap 9 7 (pc' := 21) (l' := [(0, .ref 0), (1, .int (nI p)), (2, .int (nI o)), (3, .int 1), (4, .int ((swS g p o 0) (p * 5 + 1)))]) (st' := [.int 1, .int (nI o), .ref 0, .int 1, .int (nI p), .ref 0]) (h' := cSe (swS g p o 0) sz c) (P := True) rfl trivial ?_
  refine gW_callV (m_valueOf (swS g p o 0) sz c o 1 (by omega) (by omega) (by omega)) lk_Se_26 [0, 1] (gdec_at D_Se_swap 16 rfl) (st := [.int 1, .int (nI p), .ref 0]) rfl rfl ⟨rfl, rfl⟩ (Nat.le_of_ble_eq_true rfl) rfl (by decide) rfl (Nat.le_of_ble_eq_true rfl) ⟨Nat.le_of_ble_eq_true rfl, Nat.le_of_ble_eq_true rfl⟩ ⟨Nat.le_of_ble_eq_true rfl, Nat.le_of_ble_eq_true rfl⟩ (gAft_r rfl rfl (h' := cSe (swS g p o 0) sz c) (st' := [.int ((swS g p o 0) (o * 5 + 1)), .int 1, .int (nI p), .ref 0]) (pc' := 24) (cs' := 0) (ss' := 0) rfl rfl rfl rfl rfl ?_)
  refine gW_callV (m_put (swS g p o 0) sz c p 1 ((swS g p o 0) (o * 5 + 1)) (by omega) (by omega) (by omega)) lk_Se_30 [0, 1] (gdec_at D_Se_swap 17 rfl) (st := []) rfl rfl ⟨rfl, rfl⟩ (Nat.le_of_ble_eq_true rfl) rfl (by decide) rfl (Nat.le_of_ble_eq_true rfl) ⟨Nat.le_of_ble_eq_true rfl, Nat.le_of_ble_eq_true rfl⟩ ⟨Nat.le_of_ble_eq_true rfl, Nat.le_of_ble_eq_true rfl⟩ (gAft_r rfl rfl (h' := cSe (upd (swS g p o 0) (p * 5 + 1) ((swS g p o 0) (o * 5 + 1))) sz c) (st' := []) (pc' := 27) (cs' := 0) (ss' := 0) rfl rfl rfl rfl rfl ?_)
  refine gW_b D_Se_swap 18 4 (pc' := 32) (l' := [(0, .ref 0), (1, .int (nI p)), (2, .int (nI o)), (3, .int 1), (4, .int ((swS g p o 0) (p * 5 + 1)))]) (st' := [.int ((swS g p o 0) (p * 5 + 1)), .int 1, .int (nI o), .ref 0]) (h' := cSe (upd (swS g p o 0) (p * 5 + 1) ((swS g p o 0) (o * 5 + 1))) sz c) (P := True) rfl trivial ?_
  refine gW_callV (m_put (upd (swS g p o 0) (p * 5 + 1) ((swS g p o 0) (o * 5 + 1))) sz c o 1 ((swS g p o 0) (p * 5 + 1)) (by omega) (by omega) (by omega)) lk_Se_30 [0, 1] (gdec_at D_Se_swap 22 rfl) (st := []) rfl rfl ⟨rfl, rfl⟩ (Nat.le_of_ble_eq_true rfl) rfl (by decide) rfl (Nat.le_of_ble_eq_true rfl) ⟨Nat.le_of_ble_eq_true rfl, Nat.le_of_ble_eq_true rfl⟩ ⟨Nat.le_of_ble_eq_true rfl, Nat.le_of_ble_eq_true rfl⟩ (gAft_r rfl rfl (h' := cSe (swS (swS g p o 0) p o 1) sz c) (st' := []) (pc' := 35) (cs' := 0) (ss' := 0) rfl rfl rfl rfl rfl ?_)
  refine gW_b D_Se_swap 23 2 (pc' := 2) (l' := [(0, .ref 0), (1, .int (nI p)), (2, .int (nI o)), (3, .int 2), (4, .int ((swS g p o 0) (p * 5 + 1)))]) (st' := []) (h' := cSe (swS (swS g p o 0) p o 1) sz c) (P := True) rfl trivial ?_
  refine gW_b D_Se_swap 2 2 (pc' := 4) (l' := [(0, .ref 0), (1, .int (nI p)), (2, .int (nI o)), (3, .int 2), (4, .int ((swS g p o 0) (p * 5 + 1)))]) (st' := [.int 5, .int 2]) (h' := cSe (swS (swS g p o 0) p o 1) sz c) (P := True) rfl trivial ?_
  refine gW_ic_ge (gdec_at D_Se_swap 4 rfl) (tgt := 41) rfl (fun c => absurd c (by decide)) (fun _ => ?_)
  refine gW_b D_Se_swap 5 3 (pc' := 10) (l' := [(0, .ref 0), (1, .int (nI p)), (2, .int (nI o)), (3, .int 2), (4, .int ((swS g p o 0) (p * 5 + 1)))]) (st' := [.int 2, .int (nI p), .ref 0]) (h' := cSe (swS (swS g p o 0) p o 1) sz c) (P := True) rfl trivial ?_
  refine gW_callV (m_valueOf (swS (swS g p o 0) p o 1) sz c p 2 (by omega) (by omega) (by omega)) lk_Se_26 [0, 1] (gdec_at D_Se_swap 8 rfl) (st := []) rfl rfl ⟨rfl, rfl⟩ (Nat.le_of_ble_eq_true rfl) rfl (by decide) rfl (Nat.le_of_ble_eq_true rfl) ⟨Nat.le_of_ble_eq_true rfl, Nat.le_of_ble_eq_true rfl⟩ ⟨Nat.le_of_ble_eq_true rfl, Nat.le_of_ble_eq_true rfl⟩ (gAft_r rfl rfl (h' := cSe (swS (swS g p o 0) p o 1) sz c) (st' := [.int ((swS (swS g p o 0) p o 1) (p * 5 + 2))]) (pc' := 13) (cs' := 0) (ss' := 0) rfl rfl rfl rfl rfl ?_)
  refine gW_b D_Se_swap 9 7 (pc' := 21) (l' := [(0, .ref 0), (1, .int (nI p)), (2, .int (nI o)), (3, .int 2), (4, .int ((swS (swS g p o 0) p o 1) (p * 5 + 2)))]) (st' := [.int 2, .int (nI o), .ref 0, .int 2, .int (nI p), .ref 0]) (h' := cSe (swS (swS g p o 0) p o 1) sz c) (P := True) rfl trivial ?_
  refine gW_callV (m_valueOf (swS (swS g p o 0) p o 1) sz c o 2 (by omega) (by omega) (by omega)) lk_Se_26 [0, 1] (gdec_at D_Se_swap 16 rfl) (st := [.int 2, .int (nI p), .ref 0]) rfl rfl ⟨rfl, rfl⟩ (Nat.le_of_ble_eq_true rfl) rfl (by decide) rfl (Nat.le_of_ble_eq_true rfl) ⟨Nat.le_of_ble_eq_true rfl, Nat.le_of_ble_eq_true rfl⟩ ⟨Nat.le_of_ble_eq_true rfl, Nat.le_of_ble_eq_true rfl⟩ (gAft_r rfl rfl (h' := cSe (swS (swS g p o 0) p o 1) sz c) (st' := [.int ((swS (swS g p o 0) p o 1) (o * 5 + 2)), .int 2, .int (nI p), .ref 0]) (pc' := 24) (cs' := 0) (ss' := 0) rfl rfl rfl rfl rfl ?_)
  refine gW_callV (m_put (swS (swS g p o 0) p o 1) sz c p 2 ((swS (swS g p o 0) p o 1) (o * 5 + 2)) (by omega) (by omega) (by omega)) lk_Se_30 [0, 1] (gdec_at D_Se_swap 17 rfl) (st := []) rfl rfl ⟨rfl, rfl⟩ (Nat.le_of_ble_eq_true rfl) rfl (by decide) rfl (Nat.le_of_ble_eq_true rfl) ⟨Nat.le_of_ble_eq_true rfl, Nat.le_of_ble_eq_true rfl⟩ ⟨Nat.le_of_ble_eq_true rfl, Nat.le_of_ble_eq_true rfl⟩ (gAft_r rfl rfl (h' := cSe (upd (swS (swS g p o 0) p o 1) (p * 5 + 2) ((swS (swS g p o 0) p o 1) (o * 5 + 2))) sz c) (st' := []) (pc' := 27) (cs' := 0) (ss' := 0) rfl rfl rfl rfl rfl ?_)
  refine gW_b D_Se_swap 18 4 (pc' := 32) (l' := [(0, .ref 0), (1, .int (nI p)), (2, .int (nI o)), (3, .int 2), (4, .int ((swS (swS g p o 0) p o 1) (p * 5 + 2)))]) (st' := [.int ((swS (swS g p o 0) p o 1) (p * 5 + 2)), .int 2, .int (nI o), .ref 0]) (h' := cSe (upd (swS (swS g p o 0) p o 1) (p * 5 + 2) ((swS (swS g p o 0) p o 1) (o * 5 + 2))) sz c) (P := True) rfl trivial ?_
  refine gW_callV (m_put (upd (swS (swS g p o 0) p o 1) (p * 5 + 2) ((swS (swS g p o 0) p o 1) (o * 5 + 2))) sz c o 2 ((swS (swS g p o 0) p o 1) (p * 5 + 2)) (by omega) (by omega) (by omega)) lk_Se_30 [0, 1] (gdec_at D_Se_swap 22 rfl) (st := []) rfl rfl ⟨rfl, rfl⟩ (Nat.le_of_ble_eq_true rfl) rfl (by decide) rfl (Nat.le_of_ble_eq_true rfl) ⟨Nat.le_of_ble_eq_true rfl, Nat.le_of_ble_eq_true rfl⟩ ⟨Nat.le_of_ble_eq_true rfl, Nat.le_of_ble_eq_true rfl⟩ (gAft_r rfl rfl (h' := cSe (swS (swS (swS g p o 0) p o 1) p o 2) sz c) (st' := []) (pc' := 35) (cs' := 0) (ss' := 0) rfl rfl rfl rfl rfl ?_)
  refine gW_b D_Se_swap 23 2 (pc' := 2) (l' := [(0, .ref 0), (1, .int (nI p)), (2, .int (nI o)), (3, .int 3), (4, .int ((swS (swS g p o 0) p o 1) (p * 5 + 2)))]) (st' := []) (h' := cSe (swS (swS (swS g p o 0) p o 1) p o 2) sz c) (P := True) rfl trivial ?_
  refine gW_b D_Se_swap 2 2 (pc' := 4) (l' := [(0, .ref 0), (1, .int (nI p)), (2, .int (nI o)), (3, .int 3), (4, .int ((swS (swS g p o 0) p o 1) (p * 5 + 2)))]) (st' := [.int 5, .int 3]) (h' := cSe (swS (swS (swS g p o 0) p o 1) p o 2) sz c) (P := True) rfl trivial ?_
  refine gW_ic_ge (gdec_at D_Se_swap 4 rfl) (tgt := 41) rfl (fun c => absurd c (by decide)) (fun _ => ?_)
  refine gW_b D_Se_swap 5 3 (pc' := 10) (l' := [(0, .ref 0), (1, .int (nI p)), (2, .int (nI o)), (3, .int 3), (4, .int ((swS (swS g p o 0) p o 1) (p * 5 + 2)))]) (st' := [.int 3, .int (nI p), .ref 0]) (h' := cSe (swS (swS (swS g p o 0) p o 1) p o 2) sz c) (P := True) rfl trivial ?_
  refine gW_callV (m_valueOf (swS (swS (swS g p o 0) p o 1) p o 2) sz c p 3 (by omega) (by omega) (by omega)) lk_Se_26 [0, 1] (gdec_at D_Se_swap 8 rfl) (st := []) rfl rfl ⟨rfl, rfl⟩ (Nat.le_of_ble_eq_true rfl) rfl (by decide) rfl (Nat.le_of_ble_eq_true rfl) ⟨Nat.le_of_ble_eq_true rfl, Nat.le_of_ble_eq_true rfl⟩ ⟨Nat.le_of_ble_eq_true rfl, Nat.le_of_ble_eq_true rfl⟩ (gAft_r rfl rfl (h' := cSe (swS (swS (swS g p o 0) p o 1) p o 2) sz c) (st' := [.int ((swS (swS (swS g p o 0) p o 1) p o 2) (p * 5 + 3))]) (pc' := 13) (cs' := 0) (ss' := 0) rfl rfl rfl rfl rfl ?_)
  refine gW_b D_Se_swap 9 7 (pc' := 21) (l' := [(0, .ref 0), (1, .int (nI p)), (2, .int (nI o)), (3, .int 3), (4, .int ((swS (swS (swS g p o 0) p o 1) p o 2) (p * 5 + 3)))]) (st' := [.int 3, .int (nI o), .ref 0, .int 3, .int (nI p), .ref 0]) (h' := cSe (swS (swS (swS g p o 0) p o 1) p o 2) sz c) (P := True) rfl trivial ?_
  refine gW_callV (m_valueOf (swS (swS (swS g p o 0) p o 1) p o 2) sz c o 3 (by omega) (by omega) (by omega)) lk_Se_26 [0, 1] (gdec_at D_Se_swap 16 rfl) (st := [.int 3, .int (nI p), .ref 0]) rfl rfl ⟨rfl, rfl⟩ (Nat.le_of_ble_eq_true rfl) rfl (by decide) rfl (Nat.le_of_ble_eq_true rfl) ⟨Nat.le_of_ble_eq_true rfl, Nat.le_of_ble_eq_true rfl⟩ ⟨Nat.le_of_ble_eq_true rfl, Nat.le_of_ble_eq_true rfl⟩ (gAft_r rfl rfl (h' := cSe (swS (swS (swS g p o 0) p o 1) p o 2) sz c) (st' := [.int ((swS (swS (swS g p o 0) p o 1) p o 2) (o * 5 + 3)), .int 3, .int (nI p), .ref 0]) (pc' := 24) (cs' := 0) (ss' := 0) rfl rfl rfl rfl rfl ?_)
  refine gW_callV (m_put (swS (swS (swS g p o 0) p o 1) p o 2) sz c p 3 ((swS (swS (swS g p o 0) p o 1) p o 2) (o * 5 + 3)) (by omega) (by omega) (by omega)) lk_Se_30 [0, 1] (gdec_at D_Se_swap 17 rfl) (st := []) rfl rfl ⟨rfl, rfl⟩ (Nat.le_of_ble_eq_true rfl) rfl (by decide) rfl (Nat.le_of_ble_eq_true rfl) ⟨Nat.le_of_ble_eq_true rfl, Nat.le_of_ble_eq_true rfl⟩ ⟨Nat.le_of_ble_eq_true rfl, Nat.le_of_ble_eq_true rfl⟩ (gAft_r rfl rfl (h' := cSe (upd (swS (swS (swS g p o 0) p o 1) p o 2) (p * 5 + 3) ((swS (swS (swS g p o 0) p o 1) p o 2) (o * 5 + 3))) sz c) (st' := []) (pc' := 27) (cs' := 0) (ss' := 0) rfl rfl rfl rfl rfl ?_)
  refine gW_b D_Se_swap 18 4 (pc' := 32) (l' := [(0, .ref 0), (1, .int (nI p)), (2, .int (nI o)), (3, .int 3), (4, .int ((swS (swS (swS g p o 0) p o 1) p o 2) (p * 5 + 3)))]) (st' := [.int ((swS (swS (swS g p o 0) p o 1) p o 2) (p * 5 + 3)), .int 3, .int (nI o), .ref 0]) (h' := cSe (upd (swS (swS (swS g p o 0) p o 1) p o 2) (p * 5 + 3) ((swS (swS (swS g p o 0) p o 1) p o 2) (o * 5 + 3))) sz c) (P := True) rfl trivial ?_
  refine gW_callV (m_put (upd (swS (swS (swS g p o 0) p o 1) p o 2) (p * 5 + 3) ((swS (swS (swS g p o 0) p o 1) p o 2) (o * 5 + 3))) sz c o 3 ((swS (swS (swS g p o 0) p o 1) p o 2) (p * 5 + 3)) (by omega) (by omega) (by omega)) lk_Se_30 [0, 1] (gdec_at D_Se_swap 22 rfl) (st := []) rfl rfl ⟨rfl, rfl⟩ (Nat.le_of_ble_eq_true rfl) rfl (by decide) rfl (Nat.le_of_ble_eq_true rfl) ⟨Nat.le_of_ble_eq_true rfl, Nat.le_of_ble_eq_true rfl⟩ ⟨Nat.le_of_ble_eq_true rfl, Nat.le_of_ble_eq_true rfl⟩ (gAft_r rfl rfl (h' := cSe (swS (swS (swS (swS g p o 0) p o 1) p o 2) p o 3) sz c) (st' := []) (pc' := 35) (cs' := 0) (ss' := 0) rfl rfl rfl rfl rfl ?_)
  refine gW_b D_Se_swap 23 2 (pc' := 2) (l' := [(0, .ref 0), (1, .int (nI p)), (2, .int (nI o)), (3, .int 4), (4, .int ((swS (swS (swS g p o 0) p o 1) p o 2) (p * 5 + 3)))]) (st' := []) (h' := cSe (swS (swS (swS (swS g p o 0) p o 1) p o 2) p o 3) sz c) (P := True) rfl trivial ?_
  refine gW_b D_Se_swap 2 2 (pc' := 4) (l' := [(0, .ref 0), (1, .int (nI p)), (2, .int (nI o)), (3, .int 4), (4, .int ((swS (swS (swS g p o 0) p o 1) p o 2) (p * 5 + 3)))]) (st' := [.int 5, .int 4]) (h' := cSe (swS (swS (swS (swS g p o 0) p o 1) p o 2) p o 3) sz c) (P := True) rfl trivial ?_
  refine gW_ic_ge (gdec_at D_Se_swap 4 rfl) (tgt := 41) rfl (fun c => absurd c (by decide)) (fun _ => ?_)
  refine gW_b D_Se_swap 5 3 (pc' := 10) (l' := [(0, .ref 0), (1, .int (nI p)), (2, .int (nI o)), (3, .int 4), (4, .int ((swS (swS (swS g p o 0) p o 1) p o 2) (p * 5 + 3)))]) (st' := [.int 4, .int (nI p), .ref 0]) (h' := cSe (swS (swS (swS (swS g p o 0) p o 1) p o 2) p o 3) sz c) (P := True) rfl trivial ?_
  refine gW_callV (m_valueOf (swS (swS (swS (swS g p o 0) p o 1) p o 2) p o 3) sz c p 4 (by omega) (by omega) (by omega)) lk_Se_26 [0, 1] (gdec_at D_Se_swap 8 rfl) (st := []) rfl rfl ⟨rfl, rfl⟩ (Nat.le_of_ble_eq_true rfl) rfl (by decide) rfl (Nat.le_of_ble_eq_true rfl) ⟨Nat.le_of_ble_eq_true rfl, Nat.le_of_ble_eq_true rfl⟩ ⟨Nat.le_of_ble_eq_true rfl, Nat.le_of_ble_eq_true rfl⟩ (gAft_r rfl rfl (h' := cSe (swS (swS (swS (swS g p o 0) p o 1) p o 2) p o 3) sz c) (st' := [.int ((swS (swS (swS (swS g p o 0) p o 1) p o 2) p o 3) (p * 5 + 4))]) (pc' := 13) (cs' := 0) (ss' := 0) rfl rfl rfl rfl rfl ?_)
  refine gW_b D_Se_swap 9 7 (pc' := 21) (l' := [(0, .ref 0), (1, .int (nI p)), (2, .int (nI o)), (3, .int 4), (4, .int ((swS (swS (swS (swS g p o 0) p o 1) p o 2) p o 3) (p * 5 + 4)))]) (st' := [.int 4, .int (nI o), .ref 0, .int 4, .int (nI p), .ref 0]) (h' := cSe (swS (swS (swS (swS g p o 0) p o 1) p o 2) p o 3) sz c) (P := True) rfl trivial ?_
  refine gW_callV (m_valueOf (swS (swS (swS (swS g p o 0) p o 1) p o 2) p o 3) sz c o 4 (by omega) (by omega) (by omega)) lk_Se_26 [0, 1] (gdec_at D_Se_swap 16 rfl) (st := [.int 4, .int (nI p), .ref 0]) rfl rfl ⟨rfl, rfl⟩ (Nat.le_of_ble_eq_true rfl) rfl (by decide) rfl (Nat.le_of_ble_eq_true rfl) ⟨Nat.le_of_ble_eq_true rfl, Nat.le_of_ble_eq_true rfl⟩ ⟨Nat.le_of_ble_eq_true rfl, Nat.le_of_ble_eq_true rfl⟩ (gAft_r rfl rfl (h' := cSe (swS (swS (swS (swS g p o 0) p o 1) p o 2) p o 3) sz c) (st' := [.int ((swS (swS (swS (swS g p o 0) p o 1) p o 2) p o 3) (o * 5 + 4)), .int 4, .int (nI p), .ref 0]) (pc' := 24) (cs' := 0) (ss' := 0) rfl rfl rfl rfl rfl ?_)
  refine gW_callV (m_put (swS (swS (swS (swS g p o 0) p o 1) p o 2) p o 3) sz c p 4 ((swS (swS (swS (swS g p o 0) p o 1) p o 2) p o 3) (o * 5 + 4)) (by omega) (by omega) (by omega)) lk_Se_30 [0, 1] (gdec_at D_Se_swap 17 rfl) (st := []) rfl rfl ⟨rfl, rfl⟩ (Nat.le_of_ble_eq_true rfl) rfl (by decide) rfl (Nat.le_of_ble_eq_true rfl) ⟨Nat.le_of_ble_eq_true rfl, Nat.le_of_ble_eq_true rfl⟩ ⟨Nat.le_of_ble_eq_true rfl, Nat.le_of_ble_eq_true rfl⟩ (gAft_r rfl rfl (h' := cSe (upd (swS (swS (swS (swS g p o 0) p o 1) p o 2) p o 3) (p * 5 + 4) ((swS (swS (swS (swS g p o 0) p o 1) p o 2) p o 3) (o * 5 + 4))) sz c) (st' := []) (pc' := 27) (cs' := 0) (ss' := 0) rfl rfl rfl rfl rfl ?_)
  refine gW_b D_Se_swap 18 4 (pc' := 32) (l' := [(0, .ref 0), (1, .int (nI p)), (2, .int (nI o)), (3, .int 4), (4, .int ((swS (swS (swS (swS g p o 0) p o 1) p o 2) p o 3) (p * 5 + 4)))]) (st' := [.int ((swS (swS (swS (swS g p o 0) p o 1) p o 2) p o 3) (p * 5 + 4)), .int 4, .int (nI o), .ref 0]) (h' := cSe (upd (swS (swS (swS (swS g p o 0) p o 1) p o 2) p o 3) (p * 5 + 4) ((swS (swS (swS (swS g p o 0) p o 1) p o 2) p o 3) (o * 5 + 4))) sz c) (P := True) rfl trivial ?_
  refine gW_callV (m_put (upd (swS (swS (swS (swS g p o 0) p o 1) p o 2) p o 3) (p * 5 + 4) ((swS (swS (swS (swS g p o 0) p o 1) p o 2) p o 3) (o * 5 + 4))) sz c o 4 ((swS (swS (swS (swS g p o 0) p o 1) p o 2) p o 3) (p * 5 + 4)) (by omega) (by omega) (by omega)) lk_Se_30 [0, 1] (gdec_at D_Se_swap 22 rfl) (st := []) rfl rfl ⟨rfl, rfl⟩ (Nat.le_of_ble_eq_true rfl) rfl (by decide) rfl (Nat.le_of_ble_eq_true rfl) ⟨Nat.le_of_ble_eq_true rfl, Nat.le_of_ble_eq_true rfl⟩ ⟨Nat.le_of_ble_eq_true rfl, Nat.le_of_ble_eq_true rfl⟩ (gAft_r rfl rfl (h' := cSe (swS (swS (swS (swS (swS g p o 0) p o 1) p o 2) p o 3) p o 4) sz c) (st' := []) (pc' := 35) (cs' := 0) (ss' := 0) rfl rfl rfl rfl rfl ?_)
  refine gW_b D_Se_swap 23 2 (pc' := 2) (l' := [(0, .ref 0), (1, .int (nI p)), (2, .int (nI o)), (3, .int 5), (4, .int ((swS (swS (swS (swS g p o 0) p o 1) p o 2) p o 3) (p * 5 + 4)))]) (st' := []) (h' := cSe (swS (swS (swS (swS (swS g p o 0) p o 1) p o 2) p o 3) p o 4) sz c) (P := True) rfl trivial ?_
  refine gW_b D_Se_swap 2 2 (pc' := 4) (l' := [(0, .ref 0), (1, .int (nI p)), (2, .int (nI o)), (3, .int 5), (4, .int ((swS (swS (swS (swS g p o 0) p o 1) p o 2) p o 3) (p * 5 + 4)))]) (st' := [.int 5, .int 5]) (h' := cSe (swS (swS (swS (swS (swS g p o 0) p o 1) p o 2) p o 3) p o 4) sz c) (P := True) rfl trivial ?_
  refine gW_ic_ge (gdec_at D_Se_swap 4 rfl) (tgt := 41) rfl (fun _ => ?_) (fun c => absurd (by decide) c)
  exact gW_vret (gdec_at D_Se_swap 25 rfl) rfl (Nat.le_of_ble_eq_true rfl) ⟨rfl, rfl⟩ (Nat.le_of_ble_eq_true rfl) (Nat.le_of_ble_eq_true rfl)
def plc (g : Nat → Int32) (x : Int32) : Nat → Nat → Int32
  | 0, _ => -1
  | n + 1, i => if g (i * 5 + 0) = x then nI i else plc g x n (i + 1)
theorem l_placeOf (g : Nat → Int32) (sz : Nat) (c : Int32) (x : Int32) (hs : sz ≤ 10) {sc : Nat × (Nat → Int32)} {n0 : Nat} (hn0 : n0 ≤ 2) : ∀ (n i : Nat) , i + n = sz → gW K_Se_placeOf sc { frames := 1, locals := 23, cells := 0, slots := 0 } n0 (gD (.inl (some (.int (plc g x n i)))) (cSe g sz c)) 0 0 2 [(0, .ref 0), (1, .int x), (2, .int (nI i))] [] (cSe g sz c) := by
  intro n
  induction n with
  | zero =>
    intro i  hi
    obtain rfl : sz = i := by omega
    refine gW_b D_Se_placeOf 2 3 (pc' := 7) (l' := [(0, .ref 0), (1, .int x), (2, .int (nI sz))]) (st' := [.int (nI sz), .int (nI sz)]) (h' := cSe g sz c) (P := True) rfl trivial ?_
    refine gW_ic_ge (gdec_at D_Se_placeOf 5 rfl) (tgt := 28) rfl (fun _ => ?_) (fun c => absurd ((gle (rfl : nI sz = nI sz) (rfl : nI sz = nI sz) (by omega) (by omega)).mpr (by omega)) c)
    refine gW_b D_Se_placeOf 16 1 (pc' := 29) (l' := [(0, .ref 0), (1, .int x), (2, .int (nI sz))]) (st' := [.int (-1)]) (h' := cSe g sz c) (P := True) rfl trivial ?_
    exact gW_iret (gdec_at D_Se_placeOf 17 rfl) rfl rfl hn0 ⟨rfl, rfl⟩ (Nat.le_of_ble_eq_true rfl) (Nat.le_of_ble_eq_true rfl)
  | succ n ih =>
    intro i  hi
    refine gW_b D_Se_placeOf 2 3 (pc' := 7) (l' := [(0, .ref 0), (1, .int x), (2, .int (nI i))]) (st' := [.int (nI sz), .int (nI i)]) (h' := cSe g sz c) (P := True) rfl trivial ?_
    refine gW_ic_ge (gdec_at D_Se_placeOf 5 rfl) (tgt := 28) rfl (fun c => absurd c (mt (gle (rfl : nI sz = nI sz) (rfl : nI i = nI i) (by omega) (by omega)).mp (by omega))) (fun _ => ?_)
    refine gW_b D_Se_placeOf 6 3 (pc' := 13) (l' := [(0, .ref 0), (1, .int x), (2, .int (nI i))]) (st' := [.int 0, .int (nI i), .ref 0]) (h' := cSe g sz c) (P := True) rfl trivial ?_
    refine gW_callV (m_valueOf g sz c i 0 (by omega) (by omega) (by omega)) lk_Se_26 [0, 1] (gdec_at D_Se_placeOf 9 rfl) (st := []) rfl rfl ⟨rfl, rfl⟩ (Nat.le_of_ble_eq_true rfl) rfl (by decide) rfl (Nat.le_of_ble_eq_true rfl) ⟨Nat.le_of_ble_eq_true rfl, Nat.le_of_ble_eq_true rfl⟩ ⟨Nat.le_of_ble_eq_true rfl, Nat.le_of_ble_eq_true rfl⟩ (gAft_r rfl rfl (h' := cSe g sz c) (st' := [.int (g (i * 5 + 0))]) (pc' := 16) (cs' := 0) (ss' := 0) rfl rfl rfl rfl rfl ?_)
    refine gW_b D_Se_placeOf 10 1 (pc' := 17) (l' := [(0, .ref 0), (1, .int x), (2, .int (nI i))]) (st' := [.int x, .int (g (i * 5 + 0))]) (h' := cSe g sz c) (P := True) rfl trivial ?_
    refine gW_ic_ne (gdec_at D_Se_placeOf 11 rfl) (tgt := 22) rfl (fun d => ?_) (fun d => ?_)
    · skip
      refine gW_b D_Se_placeOf 14 2 (pc' := 2) (l' := [(0, .ref 0), (1, .int x), (2, .int ((nI i) + 1))]) (st' := []) (h' := cSe g sz c) (P := True) rfl trivial ?_
      rw [show ((nI i) + 1 : Int32) = nI (i + 1) from (gadd (rfl : nI i = nI i) (gk 1))]
      rw [show plc g x (n + 1) i = plc g x n (i + 1) from if_neg d]
      exact ih (i + 1) (by omega)
    · skip
      refine gW_b D_Se_placeOf 12 1 (pc' := 21) (l' := [(0, .ref 0), (1, .int x), (2, .int (nI i))]) (st' := [.int (nI i)]) (h' := cSe g sz c) (P := True) rfl trivial ?_
      rw [show plc g x (n + 1) i = nI i from if_pos d]
      exact gW_iret (gdec_at D_Se_placeOf 13 rfl) rfl rfl hn0 ⟨rfl, rfl⟩ (Nat.le_of_ble_eq_true rfl) (Nat.le_of_ble_eq_true rfl)
theorem m_placeOf (g : Nat → Int32) (sz : Nat) (c : Int32) (x : Int32) (hs : sz ≤ 10) : gM K_Se_placeOf { frames := 1, locals := 23, cells := 0, slots := 0 } [.ref 0, .int x] (cSe g sz c) (gD (.inl (some (.int (plc g x sz 0)))) (cSe g sz c)) := by
  refine gM_of rfl rfl (Nat.le_of_ble_eq_true rfl) (fun sc => ?_)
  refine gW_b D_Se_placeOf 0 2 (pc' := 2) (l' := [(0, .ref 0), (1, .int x), (2, .int 0)]) (st' := []) (h' := cSe g sz c) (P := True) rfl trivial ?_
  exact l_placeOf g sz c x hs (Nat.le_refl _) sz 0 (Nat.zero_add sz)
def wtc (g : Nat → Int32) (t : Int32) : Nat → Int32
  | 0 => 0
  | i + 1 => if g (i * 5 + 1) = t then wtc g t i + g (i * 5 + 2) else wtc g t i
theorem l_wantedOf (g : Nat → Int32) (sz : Nat) (c : Int32) (t : Int32) (hs : sz ≤ 10) {sc : Nat × (Nat → Int32)} {n0 : Nat} {E : gO → gH → Prop} (kk : gW K_Se_wantedOf sc { frames := 1, locals := 23, cells := 0, slots := 0 } n0 E 0 0 37 [(0, .ref 0), (1, .int t), (2, .int (wtc g t sz)), (3, .int (nI sz))] [] (cSe g sz c)) : ∀ (n i : Nat), i + n = sz → gW K_Se_wantedOf sc { frames := 1, locals := 23, cells := 0, slots := 0 } n0 E 0 0 4 [(0, .ref 0), (1, .int t), (2, .int (wtc g t i)), (3, .int (nI i))] [] (cSe g sz c) := by
  intro n
  induction n with
  | zero =>
    intro i hi
    obtain rfl : sz = i := by omega
    refine gW_b D_Se_wantedOf 4 3 (pc' := 9) (l' := [(0, .ref 0), (1, .int t), (2, .int (wtc g t sz)), (3, .int (nI sz))]) (st' := [.int (nI sz), .int (nI sz)]) (h' := cSe g sz c) (P := True) rfl trivial ?_
    refine gW_ic_ge (gdec_at D_Se_wantedOf 7 rfl) (tgt := 37) rfl (fun _ => ?_) (fun c => absurd ((gle (rfl : nI sz = nI sz) (rfl : nI sz = nI sz) (by omega) (by omega)).mpr (by omega)) c)
    exact kk
  | succ n ih =>
    intro i hi
    refine gW_b D_Se_wantedOf 4 3 (pc' := 9) (l' := [(0, .ref 0), (1, .int t), (2, .int (wtc g t i)), (3, .int (nI i))]) (st' := [.int (nI sz), .int (nI i)]) (h' := cSe g sz c) (P := True) rfl trivial ?_
    refine gW_ic_ge (gdec_at D_Se_wantedOf 7 rfl) (tgt := 37) rfl (fun c => absurd c (mt (gle (rfl : nI sz = nI sz) (rfl : nI i = nI i) (by omega) (by omega)).mp (by omega))) (fun _ => ?_)
    refine gW_b D_Se_wantedOf 8 3 (pc' := 15) (l' := [(0, .ref 0), (1, .int t), (2, .int (wtc g t i)), (3, .int (nI i))]) (st' := [.int 1, .int (nI i), .ref 0]) (h' := cSe g sz c) (P := True) rfl trivial ?_
    refine gW_callV (m_valueOf g sz c i 1 (by omega) (by omega) (by omega)) lk_Se_26 [0, 1] (gdec_at D_Se_wantedOf 11 rfl) (st := []) rfl rfl ⟨rfl, rfl⟩ (Nat.le_of_ble_eq_true rfl) rfl (by decide) rfl (Nat.le_of_ble_eq_true rfl) ⟨Nat.le_of_ble_eq_true rfl, Nat.le_of_ble_eq_true rfl⟩ ⟨Nat.le_of_ble_eq_true rfl, Nat.le_of_ble_eq_true rfl⟩ (gAft_r rfl rfl (h' := cSe g sz c) (st' := [.int (g (i * 5 + 1))]) (pc' := 18) (cs' := 0) (ss' := 0) rfl rfl rfl rfl rfl ?_)
    refine gW_b D_Se_wantedOf 12 1 (pc' := 19) (l' := [(0, .ref 0), (1, .int t), (2, .int (wtc g t i)), (3, .int (nI i))]) (st' := [.int t, .int (g (i * 5 + 1))]) (h' := cSe g sz c) (P := True) rfl trivial ?_
    refine gW_ic_ne (gdec_at D_Se_wantedOf 13 rfl) (tgt := 31) rfl (fun d => ?_) (fun d => ?_)
    · skip
      refine gW_b D_Se_wantedOf 21 2 (pc' := 4) (l' := [(0, .ref 0), (1, .int t), (2, .int (wtc g t i)), (3, .int ((nI i) + 1))]) (st' := []) (h' := cSe g sz c) (P := True) rfl trivial ?_
      rw [show ((nI i) + 1 : Int32) = nI (i + 1) from (gadd (rfl : nI i = nI i) (gk 1))]
      rw [show wtc g t i = wtc g t (i + 1) from (if_neg d).symm]
      exact ih (i + 1) (by omega)
    · skip
      refine gW_b D_Se_wantedOf 14 4 (pc' := 26) (l' := [(0, .ref 0), (1, .int t), (2, .int (wtc g t i)), (3, .int (nI i))]) (st' := [.int 2, .int (nI i), .ref 0, .int (wtc g t i)]) (h' := cSe g sz c) (P := True) rfl trivial ?_
      refine gW_callV (m_valueOf g sz c i 2 (by omega) (by omega) (by omega)) lk_Se_26 [0, 1] (gdec_at D_Se_wantedOf 18 rfl) (st := [.int (wtc g t i)]) rfl rfl ⟨rfl, rfl⟩ (Nat.le_of_ble_eq_true rfl) rfl (by decide) rfl (Nat.le_of_ble_eq_true rfl) ⟨Nat.le_of_ble_eq_true rfl, Nat.le_of_ble_eq_true rfl⟩ ⟨Nat.le_of_ble_eq_true rfl, Nat.le_of_ble_eq_true rfl⟩ (gAft_r rfl rfl (h' := cSe g sz c) (st' := [.int (g (i * 5 + 2)), .int (wtc g t i)]) (pc' := 29) (cs' := 0) (ss' := 0) rfl rfl rfl rfl rfl ?_)
      refine gW_b D_Se_wantedOf 19 4 (pc' := 4) (l' := [(0, .ref 0), (1, .int t), (2, .int ((wtc g t i) + (g (i * 5 + 2)))), (3, .int ((nI i) + 1))]) (st' := []) (h' := cSe g sz c) (P := True) rfl trivial ?_
      rw [show ((nI i) + 1 : Int32) = nI (i + 1) from (gadd (rfl : nI i = nI i) (gk 1))]
      rw [show wtc g t i + g (i * 5 + 2) = wtc g t (i + 1) from (if_pos d).symm]
      exact ih (i + 1) (by omega)
theorem m_wantedOf (g : Nat → Int32) (sz : Nat) (c : Int32) (t : Int32) (hs : sz ≤ 10) : gM K_Se_wantedOf { frames := 1, locals := 23, cells := 0, slots := 0 } [.ref 0, .int t] (cSe g sz c) (gD (.inl (some (.int (wtc g t sz)))) (cSe g sz c)) := by
  refine gM_of rfl rfl (Nat.le_of_ble_eq_true rfl) (fun sc => ?_)
  refine gW_b D_Se_wantedOf 0 4 (pc' := 4) (l' := [(0, .ref 0), (1, .int t), (2, .int 0), (3, .int 0)]) (st' := []) (h' := cSe g sz c) (P := True) rfl trivial ?_
  refine l_wantedOf g sz c t hs ?_ sz 0 (Nat.zero_add sz)
  refine gW_b D_Se_wantedOf 23 1 (pc' := 38) (l' := [(0, .ref 0), (1, .int t), (2, .int (wtc g t sz)), (3, .int (nI sz))]) (st' := [.int (wtc g t sz)]) (h' := cSe g sz c) (P := True) rfl trivial ?_
  exact gW_iret (gdec_at D_Se_wantedOf 24 rfl) rfl rfl (Nat.le_of_ble_eq_true rfl) ⟨rfl, rfl⟩ (Nat.le_of_ble_eq_true rfl) (Nat.le_of_ble_eq_true rfl)
def adF (g : Nat → Int32) (sz : Nat) (c t u d : Int32) : Nat → Int32 := upd (upd (upd (upd (upd g (sz * 5 + 0) c) (sz * 5 + 1) t) (sz * 5 + 2) u) (sz * 5 + 3) d) (sz * 5 + 4) 0

theorem m_add (g : Nat → Int32) (sz : Nat) (c : Int32) (t u d : Int32) (hs : sz < 10) : gM K_Se_add { frames := 1, locals := 23, cells := 0, slots := 0 } [.ref 0, .int t, .int u, .int d] (cSe g sz c) (gD (.inl (some (.int c))) (cSe (adF g sz c t u d) (sz + 1) (c + 1))) := by
  refine gM_of rfl rfl (Nat.le_of_ble_eq_true rfl) (fun sc => ?_)
  refine gW_b D_Se_add 0 3 (pc' := 6) (l' := [(0, .ref 0), (1, .int t), (2, .int u), (3, .int d)]) (st' := [.int 10, .int (nI sz)]) (h' := cSe g sz c) (P := True) rfl trivial ?_
  refine gW_ic_lt (gdec_at D_Se_add 3 rfl) (tgt := 11) rfl (fun _ => ?_) (fun c => absurd ((glt (rfl : nI sz = nI sz) (gk 10) (by omega) (by omega)).mpr (by omega)) c)
  refine gW_b D_Se_add 6 14 (pc' := 35) (l' := [(0, .ref 0), (1, .int t), (2, .int u), (3, .int d), (4, .int (nI sz))]) (st' := [.int c, .int 0, .int (nI sz), .ref 0]) (h' := [cO 1 [.ref 1, .int ((nI sz) + 1), .int c], cI 50 g]) (P := True) rfl trivial ?_
  rw [show ((nI sz) + 1 : Int32) = nI (sz + 1) from (gadd (rfl : nI sz = nI sz) (gk 1))]
  refine gW_callV (m_put g (sz + 1) c sz 0 c (by omega) (by omega) (by omega)) lk_Se_30 [0, 1] (gdec_at D_Se_add 20 rfl) (st := []) rfl rfl ⟨rfl, rfl⟩ (Nat.le_of_ble_eq_true rfl) rfl (by decide) rfl (Nat.le_of_ble_eq_true rfl) ⟨Nat.le_of_ble_eq_true rfl, Nat.le_of_ble_eq_true rfl⟩ ⟨Nat.le_of_ble_eq_true rfl, Nat.le_of_ble_eq_true rfl⟩ (gAft_r rfl rfl (h' := cSe (upd g (sz * 5 + 0) c) (sz + 1) c) (st' := []) (pc' := 38) (cs' := 0) (ss' := 0) rfl rfl rfl rfl rfl ?_)
  refine gW_b D_Se_add 21 4 (pc' := 43) (l' := [(0, .ref 0), (1, .int t), (2, .int u), (3, .int d), (4, .int (nI sz))]) (st' := [.int t, .int 1, .int (nI sz), .ref 0]) (h' := cSe (upd g (sz * 5 + 0) c) (sz + 1) c) (P := True) rfl trivial ?_
  refine gW_callV (m_put (upd g (sz * 5 + 0) c) (sz + 1) c sz 1 t (by omega) (by omega) (by omega)) lk_Se_30 [0, 1] (gdec_at D_Se_add 25 rfl) (st := []) rfl rfl ⟨rfl, rfl⟩ (Nat.le_of_ble_eq_true rfl) rfl (by decide) rfl (Nat.le_of_ble_eq_true rfl) ⟨Nat.le_of_ble_eq_true rfl, Nat.le_of_ble_eq_true rfl⟩ ⟨Nat.le_of_ble_eq_true rfl, Nat.le_of_ble_eq_true rfl⟩ (gAft_r rfl rfl (h' := cSe (upd (upd g (sz * 5 + 0) c) (sz * 5 + 1) t) (sz + 1) c) (st' := []) (pc' := 46) (cs' := 0) (ss' := 0) rfl rfl rfl rfl rfl ?_)
  refine gW_b D_Se_add 26 4 (pc' := 51) (l' := [(0, .ref 0), (1, .int t), (2, .int u), (3, .int d), (4, .int (nI sz))]) (st' := [.int u, .int 2, .int (nI sz), .ref 0]) (h' := cSe (upd (upd g (sz * 5 + 0) c) (sz * 5 + 1) t) (sz + 1) c) (P := True) rfl trivial ?_
  refine gW_callV (m_put (upd (upd g (sz * 5 + 0) c) (sz * 5 + 1) t) (sz + 1) c sz 2 u (by omega) (by omega) (by omega)) lk_Se_30 [0, 1] (gdec_at D_Se_add 30 rfl) (st := []) rfl rfl ⟨rfl, rfl⟩ (Nat.le_of_ble_eq_true rfl) rfl (by decide) rfl (Nat.le_of_ble_eq_true rfl) ⟨Nat.le_of_ble_eq_true rfl, Nat.le_of_ble_eq_true rfl⟩ ⟨Nat.le_of_ble_eq_true rfl, Nat.le_of_ble_eq_true rfl⟩ (gAft_r rfl rfl (h' := cSe (upd (upd (upd g (sz * 5 + 0) c) (sz * 5 + 1) t) (sz * 5 + 2) u) (sz + 1) c) (st' := []) (pc' := 54) (cs' := 0) (ss' := 0) rfl rfl rfl rfl rfl ?_)
  refine gW_b D_Se_add 31 4 (pc' := 59) (l' := [(0, .ref 0), (1, .int t), (2, .int u), (3, .int d), (4, .int (nI sz))]) (st' := [.int d, .int 3, .int (nI sz), .ref 0]) (h' := cSe (upd (upd (upd g (sz * 5 + 0) c) (sz * 5 + 1) t) (sz * 5 + 2) u) (sz + 1) c) (P := True) rfl trivial ?_
  refine gW_callV (m_put (upd (upd (upd g (sz * 5 + 0) c) (sz * 5 + 1) t) (sz * 5 + 2) u) (sz + 1) c sz 3 d (by omega) (by omega) (by omega)) lk_Se_30 [0, 1] (gdec_at D_Se_add 35 rfl) (st := []) rfl rfl ⟨rfl, rfl⟩ (Nat.le_of_ble_eq_true rfl) rfl (by decide) rfl (Nat.le_of_ble_eq_true rfl) ⟨Nat.le_of_ble_eq_true rfl, Nat.le_of_ble_eq_true rfl⟩ ⟨Nat.le_of_ble_eq_true rfl, Nat.le_of_ble_eq_true rfl⟩ (gAft_r rfl rfl (h' := cSe (upd (upd (upd (upd g (sz * 5 + 0) c) (sz * 5 + 1) t) (sz * 5 + 2) u) (sz * 5 + 3) d) (sz + 1) c) (st' := []) (pc' := 62) (cs' := 0) (ss' := 0) rfl rfl rfl rfl rfl ?_)
  refine gW_b D_Se_add 36 4 (pc' := 67) (l' := [(0, .ref 0), (1, .int t), (2, .int u), (3, .int d), (4, .int (nI sz))]) (st' := [.int 0, .int 4, .int (nI sz), .ref 0]) (h' := cSe (upd (upd (upd (upd g (sz * 5 + 0) c) (sz * 5 + 1) t) (sz * 5 + 2) u) (sz * 5 + 3) d) (sz + 1) c) (P := True) rfl trivial ?_
  refine gW_callV (m_put (upd (upd (upd (upd g (sz * 5 + 0) c) (sz * 5 + 1) t) (sz * 5 + 2) u) (sz * 5 + 3) d) (sz + 1) c sz 4 0 (by omega) (by omega) (by omega)) lk_Se_30 [0, 1] (gdec_at D_Se_add 40 rfl) (st := []) rfl rfl ⟨rfl, rfl⟩ (Nat.le_of_ble_eq_true rfl) rfl (by decide) rfl (Nat.le_of_ble_eq_true rfl) ⟨Nat.le_of_ble_eq_true rfl, Nat.le_of_ble_eq_true rfl⟩ ⟨Nat.le_of_ble_eq_true rfl, Nat.le_of_ble_eq_true rfl⟩ (gAft_r rfl rfl (h' := cSe (upd (upd (upd (upd (upd g (sz * 5 + 0) c) (sz * 5 + 1) t) (sz * 5 + 2) u) (sz * 5 + 3) d) (sz * 5 + 4) 0) (sz + 1) c) (st' := []) (pc' := 70) (cs' := 0) (ss' := 0) rfl rfl rfl rfl rfl ?_)
  refine gW_b D_Se_add 41 10 (pc' := 86) (l' := [(0, .ref 0), (1, .int t), (2, .int u), (3, .int d), (4, .int (nI sz))]) (st' := [.int ((c + 1) - 1)]) (h' := cSe (upd (upd (upd (upd (upd g (sz * 5 + 0) c) (sz * 5 + 1) t) (sz * 5 + 2) u) (sz * 5 + 3) d) (sz * 5 + 4) 0) (sz + 1) (c + 1)) (P := True) rfl trivial ?_
  rw [gacs c]
  exact gW_iret (gdec_at D_Se_add 51 rfl) rfl rfl (Nat.le_of_ble_eq_true rfl) ⟨rfl, rfl⟩ (Nat.le_of_ble_eq_true rfl) (Nat.le_of_ble_eq_true rfl)
def rcS (g : Nat → Int32) (q k : Nat) : Nat → Int32 := upd g (q * 5 + k) (g ((q + 1) * 5 + k))
def rcF (g : Nat → Int32) (q : Nat) : Nat → Int32 := rcS (rcS (rcS (rcS (rcS g q 0) q 1) q 2) q 3) q 4
/-- the rows behind p, j of them, move one place down -/
def rmO (g : Nat → Int32) (p : Nat) : Nat → Nat → Int32
  | 0 => g
  | j + 1 => rcF (rmO g p j) (p + j)
theorem l_remove (g : Nat → Int32) (sz : Nat) (c : Int32) (p : Nat) (hs : sz ≤ 10) (hp : p < sz) {sc : Nat × (Nat → Int32)} {n0 : Nat} {E : gO → gH → Prop} (kk : gW K_Se_remove sc { frames := 1, locals := 23, cells := 0, slots := 0 } n0 E 0 0 58 [(0, .ref 0), (1, .int (nI p)), (2, .int (nI (p + (sz - 1 - p) + 1)))] [] (cSe (rmO g p (sz - 1 - p)) sz c)) : ∀ (n i : Nat), i + n = (sz - 1 - p) → gW K_Se_remove sc { frames := 1, locals := 23, cells := 0, slots := 0 } n0 E 0 0 17 [(0, .ref 0), (1, .int (nI p)), (2, .int (nI (p + i + 1)))] [] (cSe (rmO g p i) sz c) := by
  intro n
  induction n with
  | zero =>
    intro i hi
    obtain rfl : (sz - 1 - p) = i := by omega
    refine gW_b D_Se_remove 11 3 (pc' := 22) (l' := [(0, .ref 0), (1, .int (nI p)), (2, .int (nI (p + (sz - 1 - p) + 1)))]) (st' := [.int (nI sz), .int (nI (p + (sz - 1 - p) + 1))]) (h' := cSe (rmO g p (sz - 1 - p)) sz c) (P := True) rfl trivial ?_
    refine gW_ic_ge (gdec_at D_Se_remove 14 rfl) (tgt := 58) rfl (fun _ => ?_) (fun c => absurd ((gle (rfl : nI sz = nI sz) (rfl : nI (p + (sz - 1 - p) + 1) = nI (p + (sz - 1 - p) + 1)) (by omega) (by omega)).mpr (by omega)) c)
    exact kk
  | succ n ih =>
    intro i hi
    refine gW_b D_Se_remove 11 3 (pc' := 22) (l' := [(0, .ref 0), (1, .int (nI p)), (2, .int (nI (p + i + 1)))]) (st' := [.int (nI sz), .int (nI (p + i + 1))]) (h' := cSe (rmO g p i) sz c) (P := True) rfl trivial ?_
    refine gW_ic_ge (gdec_at D_Se_remove 14 rfl) (tgt := 58) rfl (fun c => absurd c (mt (gle (rfl : nI sz = nI sz) (rfl : nI (p + i + 1) = nI (p + i + 1)) (by omega) (by omega)).mp (by omega))) (fun _ => ?_)
    refine gW_b D_Se_remove 15 4 (pc' := 29) (l' := [(0, .ref 0), (1, .int (nI p)), (2, .int (nI (p + i + 1))), (3, .int 0)]) (st' := [.int 5, .int 0]) (h' := cSe (rmO g p i) sz c) (P := True) rfl trivial ?_
    refine gW_ic_ge (gdec_at D_Se_remove 19 rfl) (tgt := 52) rfl (fun c => absurd c (by decide)) (fun _ => ?_)
    refine gW_b D_Se_remove 20 8 (pc' := 40) (l' := [(0, .ref 0), (1, .int (nI p)), (2, .int (nI (p + i + 1))), (3, .int 0)]) (st' := [.int 0, .int (nI (p + i + 1)), .ref 0, .int 0, .int ((nI (p + i + 1)) - 1), .ref 0]) (h' := cSe (rmO g p i) sz c) (P := True) rfl trivial ?_
    refine gW_callV (m_valueOf (rmO g p i) sz c (p + i + 1) 0 (by omega) (by omega) (by omega)) lk_Se_26 [0, 1] (gdec_at D_Se_remove 28 rfl) (st := [.int 0, .int ((nI (p + i + 1)) - 1), .ref 0]) rfl rfl ⟨rfl, rfl⟩ (Nat.le_of_ble_eq_true rfl) rfl (by decide) rfl (Nat.le_of_ble_eq_true rfl) ⟨Nat.le_of_ble_eq_true rfl, Nat.le_of_ble_eq_true rfl⟩ ⟨Nat.le_of_ble_eq_true rfl, Nat.le_of_ble_eq_true rfl⟩ (gAft_r rfl rfl (h' := cSe (rmO g p i) sz c) (st' := [.int ((rmO g p i) ((p + i + 1) * 5 + 0)), .int 0, .int ((nI (p + i + 1)) - 1), .ref 0]) (pc' := 43) (cs' := 0) (ss' := 0) rfl rfl rfl rfl rfl ?_)
    rw [show ((nI (p + i + 1)) - 1 : Int32) = nI (p + i) from (gsub1 (rfl : nI (p + i + 1) = nI (p + i + 1)))]
    refine gW_callV (m_put (rmO g p i) sz c (p + i) 0 ((rmO g p i) ((p + i + 1) * 5 + 0)) (by omega) (by omega) (by omega)) lk_Se_30 [0, 1] (gdec_at D_Se_remove 29 rfl) (st := []) rfl rfl ⟨rfl, rfl⟩ (Nat.le_of_ble_eq_true rfl) rfl (by decide) rfl (Nat.le_of_ble_eq_true rfl) ⟨Nat.le_of_ble_eq_true rfl, Nat.le_of_ble_eq_true rfl⟩ ⟨Nat.le_of_ble_eq_true rfl, Nat.le_of_ble_eq_true rfl⟩ (gAft_r rfl rfl (h' := cSe (rcS (rmO g p i) (p + i) 0) sz c) (st' := []) (pc' := 46) (cs' := 0) (ss' := 0) rfl rfl rfl rfl rfl ?_)
    refine gW_b D_Se_remove 30 2 (pc' := 27) (l' := [(0, .ref 0), (1, .int (nI p)), (2, .int (nI (p + i + 1))), (3, .int 1)]) (st' := []) (h' := cSe (rcS (rmO g p i) (p + i) 0) sz c) (P := True) rfl trivial ?_
    refine gW_b D_Se_remove 17 2 (pc' := 29) (l' := [(0, .ref 0), (1, .int (nI p)), (2, .int (nI (p + i + 1))), (3, .int 1)]) (st' := [.int 5, .int 1]) (h' := cSe (rcS (rmO g p i) (p + i) 0) sz c) (P := True) rfl trivial ?_
    refine gW_ic_ge (gdec_at D_Se_remove 19 rfl) (tgt := 52) rfl (fun c => absurd c (by decide)) (fun _ => ?_)
    refine gW_b D_Se_remove 20 8 (pc' := 40) (l' := [(0, .ref 0), (1, .int (nI p)), (2, .int (nI (p + i + 1))), (3, .int 1)]) (st' := [.int 1, .int (nI (p + i + 1)), .ref 0, .int 1, .int ((nI (p + i + 1)) - 1), .ref 0]) (h' := cSe (rcS (rmO g p i) (p + i) 0) sz c) (P := True) rfl trivial ?_
    refine gW_callV (m_valueOf (rcS (rmO g p i) (p + i) 0) sz c (p + i + 1) 1 (by omega) (by omega) (by omega)) lk_Se_26 [0, 1] (gdec_at D_Se_remove 28 rfl) (st := [.int 1, .int ((nI (p + i + 1)) - 1), .ref 0]) rfl rfl ⟨rfl, rfl⟩ (Nat.le_of_ble_eq_true rfl) rfl (by decide) rfl (Nat.le_of_ble_eq_true rfl) ⟨Nat.le_of_ble_eq_true rfl, Nat.le_of_ble_eq_true rfl⟩ ⟨Nat.le_of_ble_eq_true rfl, Nat.le_of_ble_eq_true rfl⟩ (gAft_r rfl rfl (h' := cSe (rcS (rmO g p i) (p + i) 0) sz c) (st' := [.int ((rcS (rmO g p i) (p + i) 0) ((p + i + 1) * 5 + 1)), .int 1, .int ((nI (p + i + 1)) - 1), .ref 0]) (pc' := 43) (cs' := 0) (ss' := 0) rfl rfl rfl rfl rfl ?_)
    rw [show ((nI (p + i + 1)) - 1 : Int32) = nI (p + i) from (gsub1 (rfl : nI (p + i + 1) = nI (p + i + 1)))]
    refine gW_callV (m_put (rcS (rmO g p i) (p + i) 0) sz c (p + i) 1 ((rcS (rmO g p i) (p + i) 0) ((p + i + 1) * 5 + 1)) (by omega) (by omega) (by omega)) lk_Se_30 [0, 1] (gdec_at D_Se_remove 29 rfl) (st := []) rfl rfl ⟨rfl, rfl⟩ (Nat.le_of_ble_eq_true rfl) rfl (by decide) rfl (Nat.le_of_ble_eq_true rfl) ⟨Nat.le_of_ble_eq_true rfl, Nat.le_of_ble_eq_true rfl⟩ ⟨Nat.le_of_ble_eq_true rfl, Nat.le_of_ble_eq_true rfl⟩ (gAft_r rfl rfl (h' := cSe (rcS (rcS (rmO g p i) (p + i) 0) (p + i) 1) sz c) (st' := []) (pc' := 46) (cs' := 0) (ss' := 0) rfl rfl rfl rfl rfl ?_)
    refine gW_b D_Se_remove 30 2 (pc' := 27) (l' := [(0, .ref 0), (1, .int (nI p)), (2, .int (nI (p + i + 1))), (3, .int 2)]) (st' := []) (h' := cSe (rcS (rcS (rmO g p i) (p + i) 0) (p + i) 1) sz c) (P := True) rfl trivial ?_
    refine gW_b D_Se_remove 17 2 (pc' := 29) (l' := [(0, .ref 0), (1, .int (nI p)), (2, .int (nI (p + i + 1))), (3, .int 2)]) (st' := [.int 5, .int 2]) (h' := cSe (rcS (rcS (rmO g p i) (p + i) 0) (p + i) 1) sz c) (P := True) rfl trivial ?_
    refine gW_ic_ge (gdec_at D_Se_remove 19 rfl) (tgt := 52) rfl (fun c => absurd c (by decide)) (fun _ => ?_)
    refine gW_b D_Se_remove 20 8 (pc' := 40) (l' := [(0, .ref 0), (1, .int (nI p)), (2, .int (nI (p + i + 1))), (3, .int 2)]) (st' := [.int 2, .int (nI (p + i + 1)), .ref 0, .int 2, .int ((nI (p + i + 1)) - 1), .ref 0]) (h' := cSe (rcS (rcS (rmO g p i) (p + i) 0) (p + i) 1) sz c) (P := True) rfl trivial ?_
    refine gW_callV (m_valueOf (rcS (rcS (rmO g p i) (p + i) 0) (p + i) 1) sz c (p + i + 1) 2 (by omega) (by omega) (by omega)) lk_Se_26 [0, 1] (gdec_at D_Se_remove 28 rfl) (st := [.int 2, .int ((nI (p + i + 1)) - 1), .ref 0]) rfl rfl ⟨rfl, rfl⟩ (Nat.le_of_ble_eq_true rfl) rfl (by decide) rfl (Nat.le_of_ble_eq_true rfl) ⟨Nat.le_of_ble_eq_true rfl, Nat.le_of_ble_eq_true rfl⟩ ⟨Nat.le_of_ble_eq_true rfl, Nat.le_of_ble_eq_true rfl⟩ (gAft_r rfl rfl (h' := cSe (rcS (rcS (rmO g p i) (p + i) 0) (p + i) 1) sz c) (st' := [.int ((rcS (rcS (rmO g p i) (p + i) 0) (p + i) 1) ((p + i + 1) * 5 + 2)), .int 2, .int ((nI (p + i + 1)) - 1), .ref 0]) (pc' := 43) (cs' := 0) (ss' := 0) rfl rfl rfl rfl rfl ?_)
    rw [show ((nI (p + i + 1)) - 1 : Int32) = nI (p + i) from (gsub1 (rfl : nI (p + i + 1) = nI (p + i + 1)))]
    refine gW_callV (m_put (rcS (rcS (rmO g p i) (p + i) 0) (p + i) 1) sz c (p + i) 2 ((rcS (rcS (rmO g p i) (p + i) 0) (p + i) 1) ((p + i + 1) * 5 + 2)) (by omega) (by omega) (by omega)) lk_Se_30 [0, 1] (gdec_at D_Se_remove 29 rfl) (st := []) rfl rfl ⟨rfl, rfl⟩ (Nat.le_of_ble_eq_true rfl) rfl (by decide) rfl (Nat.le_of_ble_eq_true rfl) ⟨Nat.le_of_ble_eq_true rfl, Nat.le_of_ble_eq_true rfl⟩ ⟨Nat.le_of_ble_eq_true rfl, Nat.le_of_ble_eq_true rfl⟩ (gAft_r rfl rfl (h' := cSe (rcS (rcS (rcS (rmO g p i) (p + i) 0) (p + i) 1) (p + i) 2) sz c) (st' := []) (pc' := 46) (cs' := 0) (ss' := 0) rfl rfl rfl rfl rfl ?_)
    refine gW_b D_Se_remove 30 2 (pc' := 27) (l' := [(0, .ref 0), (1, .int (nI p)), (2, .int (nI (p + i + 1))), (3, .int 3)]) (st' := []) (h' := cSe (rcS (rcS (rcS (rmO g p i) (p + i) 0) (p + i) 1) (p + i) 2) sz c) (P := True) rfl trivial ?_
    refine gW_b D_Se_remove 17 2 (pc' := 29) (l' := [(0, .ref 0), (1, .int (nI p)), (2, .int (nI (p + i + 1))), (3, .int 3)]) (st' := [.int 5, .int 3]) (h' := cSe (rcS (rcS (rcS (rmO g p i) (p + i) 0) (p + i) 1) (p + i) 2) sz c) (P := True) rfl trivial ?_
    refine gW_ic_ge (gdec_at D_Se_remove 19 rfl) (tgt := 52) rfl (fun c => absurd c (by decide)) (fun _ => ?_)
    refine gW_b D_Se_remove 20 8 (pc' := 40) (l' := [(0, .ref 0), (1, .int (nI p)), (2, .int (nI (p + i + 1))), (3, .int 3)]) (st' := [.int 3, .int (nI (p + i + 1)), .ref 0, .int 3, .int ((nI (p + i + 1)) - 1), .ref 0]) (h' := cSe (rcS (rcS (rcS (rmO g p i) (p + i) 0) (p + i) 1) (p + i) 2) sz c) (P := True) rfl trivial ?_
    refine gW_callV (m_valueOf (rcS (rcS (rcS (rmO g p i) (p + i) 0) (p + i) 1) (p + i) 2) sz c (p + i + 1) 3 (by omega) (by omega) (by omega)) lk_Se_26 [0, 1] (gdec_at D_Se_remove 28 rfl) (st := [.int 3, .int ((nI (p + i + 1)) - 1), .ref 0]) rfl rfl ⟨rfl, rfl⟩ (Nat.le_of_ble_eq_true rfl) rfl (by decide) rfl (Nat.le_of_ble_eq_true rfl) ⟨Nat.le_of_ble_eq_true rfl, Nat.le_of_ble_eq_true rfl⟩ ⟨Nat.le_of_ble_eq_true rfl, Nat.le_of_ble_eq_true rfl⟩ (gAft_r rfl rfl (h' := cSe (rcS (rcS (rcS (rmO g p i) (p + i) 0) (p + i) 1) (p + i) 2) sz c) (st' := [.int ((rcS (rcS (rcS (rmO g p i) (p + i) 0) (p + i) 1) (p + i) 2) ((p + i + 1) * 5 + 3)), .int 3, .int ((nI (p + i + 1)) - 1), .ref 0]) (pc' := 43) (cs' := 0) (ss' := 0) rfl rfl rfl rfl rfl ?_)
    rw [show ((nI (p + i + 1)) - 1 : Int32) = nI (p + i) from (gsub1 (rfl : nI (p + i + 1) = nI (p + i + 1)))]
    refine gW_callV (m_put (rcS (rcS (rcS (rmO g p i) (p + i) 0) (p + i) 1) (p + i) 2) sz c (p + i) 3 ((rcS (rcS (rcS (rmO g p i) (p + i) 0) (p + i) 1) (p + i) 2) ((p + i + 1) * 5 + 3)) (by omega) (by omega) (by omega)) lk_Se_30 [0, 1] (gdec_at D_Se_remove 29 rfl) (st := []) rfl rfl ⟨rfl, rfl⟩ (Nat.le_of_ble_eq_true rfl) rfl (by decide) rfl (Nat.le_of_ble_eq_true rfl) ⟨Nat.le_of_ble_eq_true rfl, Nat.le_of_ble_eq_true rfl⟩ ⟨Nat.le_of_ble_eq_true rfl, Nat.le_of_ble_eq_true rfl⟩ (gAft_r rfl rfl (h' := cSe (rcS (rcS (rcS (rcS (rmO g p i) (p + i) 0) (p + i) 1) (p + i) 2) (p + i) 3) sz c) (st' := []) (pc' := 46) (cs' := 0) (ss' := 0) rfl rfl rfl rfl rfl ?_)
    refine gW_b D_Se_remove 30 2 (pc' := 27) (l' := [(0, .ref 0), (1, .int (nI p)), (2, .int (nI (p + i + 1))), (3, .int 4)]) (st' := []) (h' := cSe (rcS (rcS (rcS (rcS (rmO g p i) (p + i) 0) (p + i) 1) (p + i) 2) (p + i) 3) sz c) (P := True) rfl trivial ?_
    refine gW_b D_Se_remove 17 2 (pc' := 29) (l' := [(0, .ref 0), (1, .int (nI p)), (2, .int (nI (p + i + 1))), (3, .int 4)]) (st' := [.int 5, .int 4]) (h' := cSe (rcS (rcS (rcS (rcS (rmO g p i) (p + i) 0) (p + i) 1) (p + i) 2) (p + i) 3) sz c) (P := True) rfl trivial ?_
    refine gW_ic_ge (gdec_at D_Se_remove 19 rfl) (tgt := 52) rfl (fun c => absurd c (by decide)) (fun _ => ?_)
    refine gW_b D_Se_remove 20 8 (pc' := 40) (l' := [(0, .ref 0), (1, .int (nI p)), (2, .int (nI (p + i + 1))), (3, .int 4)]) (st' := [.int 4, .int (nI (p + i + 1)), .ref 0, .int 4, .int ((nI (p + i + 1)) - 1), .ref 0]) (h' := cSe (rcS (rcS (rcS (rcS (rmO g p i) (p + i) 0) (p + i) 1) (p + i) 2) (p + i) 3) sz c) (P := True) rfl trivial ?_
    refine gW_callV (m_valueOf (rcS (rcS (rcS (rcS (rmO g p i) (p + i) 0) (p + i) 1) (p + i) 2) (p + i) 3) sz c (p + i + 1) 4 (by omega) (by omega) (by omega)) lk_Se_26 [0, 1] (gdec_at D_Se_remove 28 rfl) (st := [.int 4, .int ((nI (p + i + 1)) - 1), .ref 0]) rfl rfl ⟨rfl, rfl⟩ (Nat.le_of_ble_eq_true rfl) rfl (by decide) rfl (Nat.le_of_ble_eq_true rfl) ⟨Nat.le_of_ble_eq_true rfl, Nat.le_of_ble_eq_true rfl⟩ ⟨Nat.le_of_ble_eq_true rfl, Nat.le_of_ble_eq_true rfl⟩ (gAft_r rfl rfl (h' := cSe (rcS (rcS (rcS (rcS (rmO g p i) (p + i) 0) (p + i) 1) (p + i) 2) (p + i) 3) sz c) (st' := [.int ((rcS (rcS (rcS (rcS (rmO g p i) (p + i) 0) (p + i) 1) (p + i) 2) (p + i) 3) ((p + i + 1) * 5 + 4)), .int 4, .int ((nI (p + i + 1)) - 1), .ref 0]) (pc' := 43) (cs' := 0) (ss' := 0) rfl rfl rfl rfl rfl ?_)
    rw [show ((nI (p + i + 1)) - 1 : Int32) = nI (p + i) from (gsub1 (rfl : nI (p + i + 1) = nI (p + i + 1)))]
    refine gW_callV (m_put (rcS (rcS (rcS (rcS (rmO g p i) (p + i) 0) (p + i) 1) (p + i) 2) (p + i) 3) sz c (p + i) 4 ((rcS (rcS (rcS (rcS (rmO g p i) (p + i) 0) (p + i) 1) (p + i) 2) (p + i) 3) ((p + i + 1) * 5 + 4)) (by omega) (by omega) (by omega)) lk_Se_30 [0, 1] (gdec_at D_Se_remove 29 rfl) (st := []) rfl rfl ⟨rfl, rfl⟩ (Nat.le_of_ble_eq_true rfl) rfl (by decide) rfl (Nat.le_of_ble_eq_true rfl) ⟨Nat.le_of_ble_eq_true rfl, Nat.le_of_ble_eq_true rfl⟩ ⟨Nat.le_of_ble_eq_true rfl, Nat.le_of_ble_eq_true rfl⟩ (gAft_r rfl rfl (h' := cSe (rmO g p (i + 1)) sz c) (st' := []) (pc' := 46) (cs' := 0) (ss' := 0) rfl rfl rfl rfl rfl ?_)
    refine gW_b D_Se_remove 30 2 (pc' := 27) (l' := [(0, .ref 0), (1, .int (nI p)), (2, .int (nI (p + i + 1))), (3, .int 5)]) (st' := []) (h' := cSe (rmO g p (i + 1)) sz c) (P := True) rfl trivial ?_
    refine gW_b D_Se_remove 17 2 (pc' := 29) (l' := [(0, .ref 0), (1, .int (nI p)), (2, .int (nI (p + i + 1))), (3, .int 5)]) (st' := [.int 5, .int 5]) (h' := cSe (rmO g p (i + 1)) sz c) (P := True) rfl trivial ?_
    refine gW_ic_ge (gdec_at D_Se_remove 19 rfl) (tgt := 52) rfl (fun _ => ?_) (fun c => absurd (by decide) c)
    refine gW_l [0, 1, 2] (l' := [(0, .ref 0), (1, .int (nI p)), (2, .int (nI (p + i + 1)))]) rfl ?_
    refine gW_b D_Se_remove 32 2 (pc' := 17) (l' := [(0, .ref 0), (1, .int (nI p)), (2, .int ((nI (p + i + 1)) + 1))]) (st' := []) (h' := cSe (rmO g p (i + 1)) sz c) (P := True) rfl trivial ?_
    rw [show ((nI (p + i + 1)) + 1 : Int32) = nI (p + (i + 1) + 1) from (gadd (rfl : nI (p + i + 1) = nI (p + i + 1)) (gk 1))]
    exact ih (i + 1) (by omega)
theorem m_remove (g : Nat → Int32) (sz : Nat) (c : Int32) (p : Nat) (hs : sz ≤ 10) (hp : p < sz) : gM K_Se_remove { frames := 1, locals := 23, cells := 0, slots := 0 } [.ref 0, .int (nI p)] (cSe g sz c) (gD (.inl none) (cSe (rmO g p (sz - 1 - p)) (sz - 1) c)) := by
  refine gM_of rfl rfl (Nat.le_of_ble_eq_true rfl) (fun sc => ?_)
  refine gW_b D_Se_remove 0 1 (pc' := 1) (l' := [(0, .ref 0), (1, .int (nI p))]) (st' := [.int (nI p)]) (h' := cSe g sz c) (P := True) rfl trivial ?_
  refine gW_if_lt (gdec_at D_Se_remove 1 rfl) (tgt := 12) rfl (fun c => absurd c (nI_pos (n := p) (by omega))) (fun _ => ?_)
  refine gW_b D_Se_remove 2 3 (pc' := 9) (l' := [(0, .ref 0), (1, .int (nI p))]) (st' := [.int (nI sz), .int (nI p)]) (h' := cSe g sz c) (P := True) rfl trivial ?_
  refine gW_ic_lt (gdec_at D_Se_remove 5 rfl) (tgt := 13) rfl (fun _ => ?_) (fun c => absurd ((glt (rfl : nI p = nI p) (rfl : nI sz = nI sz) (by omega) (by omega)).mpr (by omega)) c)
  refine gW_b D_Se_remove 7 4 (pc' := 17) (l' := [(0, .ref 0), (1, .int (nI p)), (2, .int ((nI p) + 1))]) (st' := []) (h' := cSe g sz c) (P := True) rfl trivial ?_
  rw [show ((nI p) + 1 : Int32) = nI (p + 1) from (gadd (rfl : nI p = nI p) (gk 1))]
  refine l_remove g sz c p hs hp ?_ (sz - 1 - p) 0 (Nat.zero_add _)
  refine gW_b D_Se_remove 34 6 (pc' := 68) (l' := [(0, .ref 0), (1, .int (nI p)), (2, .int (nI (p + (sz - 1 - p) + 1)))]) (st' := []) (h' := [cO 1 [.ref 1, .int ((nI sz) - 1), .int c], cI 50 (rmO g p (sz - 1 - p))]) (P := True) rfl trivial ?_
  exact gW_vret (gdec_at D_Se_remove 40 rfl) rfl (Nat.le_of_ble_eq_true rfl) ⟨rfl, by rw [show nI sz - 1 = nI (sz - 1) from gsub rfl (gk 1) (by omega)]⟩ (Nat.le_of_ble_eq_true rfl) (Nat.le_of_ble_eq_true rfl)
def inn (k : Nat) : Nat → (Nat → Int32) → Nat → Int32
  | 0, g => g
  | p + 1, g => if cb k g (p + 1) p = true then inn k p (swapF g (p + 1) p) else g
def arrO (k : Nat) (g : Nat → Int32) : Nat → Nat → Int32
  | 0 => g
  | s + 1 => inn k (s + 1) (arrO k g s)
def keyOf (o : Int32) : Nat := if o = 0 then 3 else 2
theorem keyOf_lt (o : Int32) : keyOf o < 5 := by
  unfold keyOf
  split <;> decide
theorem l_arrange_in (sz : Nat) (c o : Int32) (k s : Nat) (hs : sz ≤ 10) (hk : k < 5) {sc : Nat × (Nat → Int32)} {n0 : Nat} {E : gO → gH → Prop} : ∀ (p : Nat) (g : Nat → Int32), p < sz → gW K_Se_arrange sc { frames := 2, locals := 48, cells := 0, slots := 0 } n0 E 0 0 58 [(0, .ref 0), (1, .int o), (2, .int (nI k)), (3, .int (nI s))] [] (cSe (inn k p g) sz c) → gW K_Se_arrange sc { frames := 2, locals := 48, cells := 0, slots := 0 } n0 E 0 0 23 [(0, .ref 0), (1, .int o), (2, .int (nI k)), (3, .int (nI s)), (4, .int (nI p))] [] (cSe g sz c) := by
  intro p
  induction p with
  | zero =>
    intro g hp kk
    refine gW_b D_Se_arrange 14 1 (pc' := 25) (l' := [(0, .ref 0), (1, .int o), (2, .int (nI k)), (3, .int (nI s)), (4, .int (nI 0))]) (st' := [.int (nI 0)]) (h' := cSe g sz c) (P := True) rfl trivial ?_
    refine gW_if_le (gdec_at D_Se_arrange 15 rfl) (tgt := 58) rfl (fun _ => ?_) (fun c => absurd ((gle (rfl : nI 0 = nI 0) (gk 0) (by omega) (by omega)).mpr (by omega)) c)
    refine gW_l [0, 1, 2, 3] (l' := [(0, .ref 0), (1, .int o), (2, .int (nI k)), (3, .int (nI s))]) rfl ?_
    exact kk
  | succ p ih =>
    intro g hp kk
    refine gW_b D_Se_arrange 14 1 (pc' := 25) (l' := [(0, .ref 0), (1, .int o), (2, .int (nI k)), (3, .int (nI s)), (4, .int (nI (p + 1)))]) (st' := [.int (nI (p + 1))]) (h' := cSe g sz c) (P := True) rfl trivial ?_
    refine gW_if_le (gdec_at D_Se_arrange 15 rfl) (tgt := 58) rfl (fun c => absurd c (mt (gle (rfl : nI (p + 1) = nI (p + 1)) (gk 0) (by omega) (by omega)).mp (by omega))) (fun _ => ?_)
    refine gW_b D_Se_arrange 16 6 (pc' := 36) (l' := [(0, .ref 0), (1, .int o), (2, .int (nI k)), (3, .int (nI s)), (4, .int (nI (p + 1)))]) (st' := [.int (nI k), .int ((nI (p + 1)) - 1), .int (nI (p + 1)), .ref 0]) (h' := cSe g sz c) (P := True) rfl trivial ?_
    rw [show ((nI (p + 1)) - 1 : Int32) = nI p from (gsub1 (rfl : nI (p + 1) = nI (p + 1)))]
    refine gW_callV (m_comesBefore g sz c (p + 1) p k (by omega) (by omega) (by omega) (by omega)) lk_Se_34 [0, 1] (gdec_at D_Se_arrange 22 rfl) (st := []) rfl rfl ⟨rfl, rfl⟩ (Nat.le_of_ble_eq_true rfl) rfl (by decide) rfl (Nat.le_of_ble_eq_true rfl) ⟨Nat.le_of_ble_eq_true rfl, Nat.le_of_ble_eq_true rfl⟩ ⟨Nat.le_of_ble_eq_true rfl, Nat.le_of_ble_eq_true rfl⟩ (gAft_r rfl rfl (h' := cSe g sz c) (st' := [.int (bI (cb k g (p + 1) p))]) (pc' := 39) (cs' := 0) (ss' := 0) rfl rfl rfl rfl rfl ?_)
    refine gW_if_eq (gdec_at D_Se_arrange 23 rfl) (tgt := 58) rfl (fun d => ?_) (fun d => ?_)
    · skip
      have d := bI_f d
      refine gW_l [0, 1, 2, 3] (l' := [(0, .ref 0), (1, .int o), (2, .int (nI k)), (3, .int (nI s))]) rfl ?_
      rw [show inn k (p + 1) g = g from if_neg (by rw [d]; decide)] at kk
      exact kk
    · skip
      have d := bI_t d
      refine gW_b D_Se_arrange 24 5 (pc' := 49) (l' := [(0, .ref 0), (1, .int o), (2, .int (nI k)), (3, .int (nI s)), (4, .int (nI (p + 1)))]) (st' := [.int ((nI (p + 1)) - 1), .int (nI (p + 1)), .ref 0]) (h' := cSe g sz c) (P := True) rfl trivial ?_
      rw [show ((nI (p + 1)) - 1 : Int32) = nI p from (gsub1 (rfl : nI (p + 1) = nI (p + 1)))]
      refine gW_callV (m_swap g sz c (p + 1) p (by omega) (by omega) (by omega)) lk_Se_38 [0, 1] (gdec_at D_Se_arrange 29 rfl) (st := []) rfl rfl ⟨rfl, rfl⟩ (Nat.le_of_ble_eq_true rfl) rfl (by decide) rfl (Nat.le_of_ble_eq_true rfl) ⟨Nat.le_of_ble_eq_true rfl, Nat.le_of_ble_eq_true rfl⟩ ⟨Nat.le_of_ble_eq_true rfl, Nat.le_of_ble_eq_true rfl⟩ (gAft_r rfl rfl (h' := cSe (swapF g (p + 1) p) sz c) (st' := []) (pc' := 52) (cs' := 0) (ss' := 0) rfl rfl rfl rfl rfl ?_)
      refine gW_b D_Se_arrange 30 2 (pc' := 23) (l' := [(0, .ref 0), (1, .int o), (2, .int (nI k)), (3, .int (nI s)), (4, .int ((nI (p + 1)) + (-1)))]) (st' := []) (h' := cSe (swapF g (p + 1) p) sz c) (P := True) rfl trivial ?_
      rw [show ((nI (p + 1)) + (-1) : Int32) = nI p from (gpred (rfl : nI (p + 1) = nI (p + 1)))]
      rw [show inn k (p + 1) g = inn k p (swapF g (p + 1) p) from if_pos d] at kk
      exact ih _ (by omega) kk
theorem l_arrange (g : Nat → Int32) (sz : Nat) (c : Int32) (o : Int32) (k : Nat) (hs : sz ≤ 10) (hk : k < 5) {sc : Nat × (Nat → Int32)} {n0 : Nat} {E : gO → gH → Prop} (kk : gW K_Se_arrange sc { frames := 2, locals := 48, cells := 0, slots := 0 } n0 E 0 0 64 [(0, .ref 0), (1, .int o), (2, .int (nI k)), (3, .int (nI ((sz - 1) + 1)))] [] (cSe (arrO k g (sz - 1)) sz c)) : ∀ (n i : Nat), i + n = (sz - 1) → gW K_Se_arrange sc { frames := 2, locals := 48, cells := 0, slots := 0 } n0 E 0 0 12 [(0, .ref 0), (1, .int o), (2, .int (nI k)), (3, .int (nI (i + 1)))] [] (cSe (arrO k g i) sz c) := by
  intro n
  induction n with
  | zero =>
    intro i hi
    obtain rfl : (sz - 1) = i := by omega
    refine gW_b D_Se_arrange 8 3 (pc' := 17) (l' := [(0, .ref 0), (1, .int o), (2, .int (nI k)), (3, .int (nI ((sz - 1) + 1)))]) (st' := [.int (nI sz), .int (nI ((sz - 1) + 1))]) (h' := cSe (arrO k g (sz - 1)) sz c) (P := True) rfl trivial ?_
    refine gW_ic_ge (gdec_at D_Se_arrange 11 rfl) (tgt := 64) rfl (fun _ => ?_) (fun c => absurd ((gle (rfl : nI sz = nI sz) (rfl : nI ((sz - 1) + 1) = nI ((sz - 1) + 1)) (by omega) (by omega)).mpr (by omega)) c)
    exact kk
  | succ n ih =>
    intro i hi
    refine gW_b D_Se_arrange 8 3 (pc' := 17) (l' := [(0, .ref 0), (1, .int o), (2, .int (nI k)), (3, .int (nI (i + 1)))]) (st' := [.int (nI sz), .int (nI (i + 1))]) (h' := cSe (arrO k g i) sz c) (P := True) rfl trivial ?_
    refine gW_ic_ge (gdec_at D_Se_arrange 11 rfl) (tgt := 64) rfl (fun c => absurd c (mt (gle (rfl : nI sz = nI sz) (rfl : nI (i + 1) = nI (i + 1)) (by omega) (by omega)).mp (by omega))) (fun _ => ?_)
    refine gW_b D_Se_arrange 12 2 (pc' := 23) (l' := [(0, .ref 0), (1, .int o), (2, .int (nI k)), (3, .int (nI (i + 1))), (4, .int (nI (i + 1)))]) (st' := []) (h' := cSe (arrO k g i) sz c) (P := True) rfl trivial ?_
    refine l_arrange_in sz c o k (i + 1) hs hk (i + 1) (arrO k g i) (by omega) ?_
    refine gW_b D_Se_arrange 32 2 (pc' := 12) (l' := [(0, .ref 0), (1, .int o), (2, .int (nI k)), (3, .int ((nI (i + 1)) + 1))]) (st' := []) (h' := cSe (arrO k g (i + 1)) sz c) (P := True) rfl trivial ?_
    rw [show ((nI (i + 1)) + 1 : Int32) = nI ((i + 1) + 1) from (gadd (rfl : nI (i + 1) = nI (i + 1)) (gk 1))]
    exact ih (i + 1) (by omega)
theorem m_arrange (g : Nat → Int32) (sz : Nat) (c : Int32) (o : Int32) (hs : sz ≤ 10) : gM K_Se_arrange { frames := 2, locals := 48, cells := 0, slots := 0 } [.ref 0, .int o] (cSe g sz c) (gD (.inl none) (cSe (arrO (keyOf o) g (sz - 1)) sz c)) := by
  refine gM_of rfl rfl (Nat.le_of_ble_eq_true rfl) (fun sc => ?_)
  refine gW_b D_Se_arrange 0 1 (pc' := 1) (l' := [(0, .ref 0), (1, .int o)]) (st' := [.int o]) (h' := cSe g sz c) (P := True) rfl trivial ?_
  refine gW_if_ne (gdec_at D_Se_arrange 1 rfl) (tgt := 8) rfl (fun d => ?_) (fun d => ?_)
  · skip
    refine gW_b D_Se_arrange 4 4 (pc' := 12) (l' := [(0, .ref 0), (1, .int o), (2, .int 2), (3, .int 1)]) (st' := []) (h' := cSe g sz c) (P := True) rfl trivial ?_
    rw [show keyOf o = 2 from if_neg d]
    refine l_arrange g sz c o 2 hs (by decide) ?_ (sz - 1) 0 (Nat.zero_add _)
    exact gW_vret (gdec_at D_Se_arrange 34 rfl) rfl (Nat.le_of_ble_eq_true rfl) ⟨rfl, rfl⟩ (Nat.le_of_ble_eq_true rfl) (Nat.le_of_ble_eq_true rfl)
  · skip
    refine gW_b D_Se_arrange 2 2 (pc' := 9) (l' := [(0, .ref 0), (1, .int o)]) (st' := [.int 3]) (h' := cSe g sz c) (P := True) rfl trivial ?_
    refine gW_b D_Se_arrange 5 3 (pc' := 12) (l' := [(0, .ref 0), (1, .int o), (2, .int 3), (3, .int 1)]) (st' := []) (h' := cSe g sz c) (P := True) rfl trivial ?_
    rw [show keyOf o = 3 from if_pos d]
    refine l_arrange g sz c o 3 hs (by decide) ?_ (sz - 1) 0 (Nat.zero_add _)
    exact gW_vret (gdec_at D_Se_arrange 34 rfl) rfl (Nat.le_of_ble_eq_true rfl) ⟨rfl, rfl⟩ (Nat.le_of_ble_eq_true rfl) (Nat.le_of_ble_eq_true rfl)

theorem m_SecopyFrom (g g2 : Nat → Int32) (sz sz2 : Nat) (c c2 : Int32) : gM K_Se_copyFrom { frames := 2, locals := 61, cells := 0, slots := 0 } [.ref 0, .ref 2] ([cO 1 [.ref 1, .int (nI sz2), .int c2], cI 50 g2, cO 1 [.ref 3, .int (nI sz), .int c], cI 50 g]) (gD (.inl none) ([cO 1 [.ref 1, .int (nI sz), .int c], cI 50 g, cO 1 [.ref 3, .int (nI sz), .int c], cI 50 g])) := by
  refine gM_of rfl rfl (Nat.le_of_ble_eq_true rfl) (fun sc => ?_)
  refine gW_b D_Se_copyFrom 0 4 (pc' := 8) (l' := [(0, .ref 0), (1, .ref 2)]) (st' := [.ref 1, .ref 3]) (h' := [cO 1 [.ref 1, .int (nI sz2), .int c2], cI 50 g2, cO 1 [.ref 3, .int (nI sz), .int c], cI 50 g]) (P := True) rfl trivial ?_
  refine gW_callS (m_copyRow 50 g g2 (by omega)) lk_Se_15 [3, 1] (gdec_at D_Se_copyFrom 4 rfl) (st := []) rfl rfl ⟨rfl, rfl⟩ (Nat.le_of_ble_eq_true rfl) (Nat.le_of_ble_eq_true rfl) ⟨Nat.le_of_ble_eq_true rfl, Nat.le_of_ble_eq_true rfl⟩ ⟨Nat.le_of_ble_eq_true rfl, Nat.le_of_ble_eq_true rfl⟩ (gAft_r rfl rfl (h' := [cO 1 [.ref 1, .int (nI sz2), .int c2], cI 50 g, cO 1 [.ref 3, .int (nI sz), .int c], cI 50 g]) (st' := []) (pc' := 11) (cs' := 0) (ss' := 0) rfl rfl rfl rfl rfl ?_)
  refine gW_b D_Se_copyFrom 5 8 (pc' := 27) (l' := [(0, .ref 0), (1, .ref 2)]) (st' := []) (h' := [cO 1 [.ref 1, .int (nI sz), .int c], cI 50 g, cO 1 [.ref 3, .int (nI sz), .int c], cI 50 g]) (P := True) rfl trivial ?_
  exact gW_vret (gdec_at D_Se_copyFrom 13 rfl) rfl (Nat.le_of_ble_eq_true rfl) ⟨rfl, rfl⟩ (Nat.le_of_ble_eq_true rfl) (Nat.le_of_ble_eq_true rfl)
end
section
/-! GoldSheets$Dome. Printed by wip/whole/meths3.py -/
/-- trays, sections' cells, how many, numbers so far, settings, sheets, cut, laid, swept, day, done, late, late days, sorted -/
abbrev gDom : Type := (Nat → Int32) × (Nat → Int32) × Nat × Int32 × (Nat → Int32) × (Nat → Int32) × (Nat → Int32) × (Nat → Int32) × (Nat → Int32) × Int32 × Int32 × Int32 × Int32 × Int32
abbrev dTr (D : gDom) : Nat → Int32 := D.1
abbrev dG (D : gDom) : Nat → Int32 := D.2.1
abbrev dSz (D : gDom) : Nat := D.2.2.1
abbrev dC (D : gDom) : Int32 := D.2.2.2.1
abbrev dSt (D : gDom) : Nat → Int32 := D.2.2.2.2.1
abbrev dSh (D : gDom) : Nat → Int32 := D.2.2.2.2.2.1
abbrev dCu (D : gDom) : Nat → Int32 := D.2.2.2.2.2.2.1
abbrev dLa (D : gDom) : Nat → Int32 := D.2.2.2.2.2.2.2.1
abbrev dSw (D : gDom) : Nat → Int32 := D.2.2.2.2.2.2.2.2.1
abbrev dDy (D : gDom) : Int32 := D.2.2.2.2.2.2.2.2.2.1
abbrev dDn (D : gDom) : Int32 := D.2.2.2.2.2.2.2.2.2.2.1
abbrev dLt (D : gDom) : Int32 := D.2.2.2.2.2.2.2.2.2.2.2.1
abbrev dLd (D : gDom) : Int32 := D.2.2.2.2.2.2.2.2.2.2.2.2.1
abbrev dSo (D : gDom) : Int32 := D.2.2.2.2.2.2.2.2.2.2.2.2.2
abbrev cDo (b : Nat) (D : gDom) : gH := [cO 2 [.ref (b + 1), .ref (b + 3), .ref (b + 5), .ref (b + 6), .ref (b + 7), .ref (b + 8), .ref (b + 9), .int (dDy D), .int (dDn D), .int (dLt D), .int (dLd D), .int (dSo D)], cO 0 [.ref (b + 2)], cI 24 (dTr D), cO 1 [.ref (b + 4), .int (nI (dSz D)), .int (dC D)], cI 50 (dG D), cI 6 (dSt D), cI 4 (dSh D), cI 4 (dCu D), cI 4 (dLa D), cI 4 (dSw D)]
/-- how many are taken so that x come in; q: setting 5 -/
def tkn (q x : Int32) : Int32 := if q - 1 < 1 then x else x + (x - 1) / (q - 1)
theorem gdiv1 {x : Int32} (h : ¬ x < 1) : ¬ x = 0 := fun q => h (by rw [q]; decide)
theorem gdiv0 {x : Int32} (h : ¬ x ≤ 0) : ¬ x = 0 := fun q => h (by rw [q]; decide)

theorem m_takenFor (D : gDom) (x : Int32) : gM K_Do_takenFor { frames := 0, locals := 0, cells := 0, slots := 0 } [.ref 0, .int x] (cDo 0 D) (gD (.inl (some (.int (tkn (dSt D 5) x)))) (cDo 0 D)) := by
  refine gM_of rfl rfl (Nat.le_of_ble_eq_true rfl) (fun sc => ?_)
  refine gW_b D_Do_takenFor 0 9 (pc' := 11) (l' := [(0, .ref 0), (1, .int x), (2, .int (((dSt D) 5) - 1))]) (st' := [.int 1, .int (((dSt D) 5) - 1)]) (h' := cDo 0 D) (P := vp_in 5 6 ∧ True) rfl ⟨(gvl 5 6 (by omega) (by omega)), trivial⟩ ?_
  refine gW_ic_ge (gdec_at D_Do_takenFor 9 rfl) (tgt := 18) rfl (fun c => ?_) (fun c => ?_)
  · skip
    have hd := gdiv1 (Int32.not_lt.mpr c)
    refine gW_b D_Do_takenFor 12 7 (pc' := 25) (l' := [(0, .ref 0), (1, .int x), (2, .int (((dSt D) 5) - 1))]) (st' := [.int (x + ((x - 1) / (((dSt D) 5) - 1)))]) (h' := cDo 0 D) (P := ¬ (((dSt D) 5) - 1) = 0 ∧ True) rfl ⟨(by assumption), trivial⟩ ?_
    rw [show x + (x - 1) / (dSt D 5 - 1) = tkn (dSt D 5) x from (if_neg (Int32.not_lt.mpr c)).symm]
    exact gW_iret (gdec_at D_Do_takenFor 19 rfl) rfl rfl (Nat.le_of_ble_eq_true rfl) ⟨rfl, rfl⟩ (Nat.le_of_ble_eq_true rfl) (Nat.le_of_ble_eq_true rfl)
  · skip
    refine gW_b D_Do_takenFor 10 2 (pc' := 25) (l' := [(0, .ref 0), (1, .int x), (2, .int (((dSt D) 5) - 1))]) (st' := [.int x]) (h' := cDo 0 D) (P := True) rfl trivial ?_
    rw [show tkn (dSt D 5) x = x from if_pos (Int32.not_le.mp c)]
    exact gW_iret (gdec_at D_Do_takenFor 19 rfl) rfl rfl (Nat.le_of_ble_eq_true rfl) ⟨rfl, rfl⟩ (Nat.le_of_ble_eq_true rfl) (Nat.le_of_ble_eq_true rfl)
def cutI (D : gDom) (a : Nat) : Int32 := if frI (dTr D) a (dSt D 1) < dSt D 0 then frI (dTr D) a (dSt D 1) else dSt D 0
def cutD (D : gDom) (t a : Nat) : gDom := (upd (dTr D) (a * 4 + t) (dTr D (a * 4 + t) + cutI D a), dG D, dSz D, dC D, dSt D, upd (dSh D) t (dSh D t + (-1)), upd (dCu D) t (dCu D t + dSt D 0), dLa D, upd (dSw D) t (dSw D t + (dSt D 0 - cutI D a)), dDy D, dDn D, dLt D, dLd D, dSo D)

theorem m_cutSheet (D : gDom) (t a : Nat) (ht : t < 4) (ha : a < 6) : gM K_Do_cutSheet { frames := 3, locals := 68, cells := 0, slots := 0 } [.ref 0, .int (nI t), .int (nI a)] (cDo 0 D) (gD (.inl (some (.int (cutI D a)))) (cDo 0 (cutD D t a))) := by
  refine gM_of rfl rfl (Nat.le_of_ble_eq_true rfl) (fun sc => ?_)
  refine gW_b D_Do_cutSheet 0 13 (pc' := 19) (l' := [(0, .ref 0), (1, .int (nI t)), (2, .int (nI a)), (3, .int ((dSt D) 0))]) (st' := [.int ((dSt D) 1), .int (nI a), .ref 1, .int ((dSt D) 0)]) (h' := cDo 0 D) (P := vp_in 0 6 ∧ vp_in 1 6 ∧ True) rfl ⟨(gvl 0 6 (by omega) (by omega)), (gvl 1 6 (by omega) (by omega)), trivial⟩ ?_
  refine gW_callV (m_freeIn (dTr D) a ((dSt D) 1) (by omega)) lk_Do_71 [1, 2] (gdec_at D_Do_cutSheet 13 rfl) (st := [.int ((dSt D) 0)]) rfl rfl ⟨rfl, rfl⟩ (Nat.le_of_ble_eq_true rfl) rfl (by decide) rfl (Nat.le_of_ble_eq_true rfl) ⟨Nat.le_of_ble_eq_true rfl, Nat.le_of_ble_eq_true rfl⟩ ⟨Nat.le_of_ble_eq_true rfl, Nat.le_of_ble_eq_true rfl⟩ (gAft_r rfl rfl (h' := cDo 0 D) (st' := [.int (frI (dTr D) a ((dSt D) 1)), .int ((dSt D) 0)]) (pc' := 22) (cs' := 0) (ss' := 0) rfl rfl rfl rfl rfl ?_)
  refine gW_min (gmem 520 (by decide +kernel)) (gdec_at D_Do_cutSheet 14 rfl) (Nat.le_of_ble_eq_true rfl) (Nat.le_of_ble_eq_true rfl) (Nat.le_of_ble_eq_true rfl) (Nat.le_of_ble_eq_true rfl) ?_
  rw [show (if frI (dTr D) a ((dSt D) 1) < (dSt D) 0 then frI (dTr D) a ((dSt D) 1) else (dSt D) 0 : Int32) = cutI D a from rfl]
  refine gW_b D_Do_cutSheet 15 6 (pc' := 35) (l' := [(0, .ref 0), (1, .int (nI t)), (2, .int (nI a)), (3, .int ((dSt D) 0)), (4, .int (cutI D a))]) (st' := [.int (cutI D a), .int (nI t), .int (nI a), .ref 1]) (h' := cDo 0 D) (P := True) rfl trivial ?_
  refine gW_callV (m_change (dTr D) a t (cutI D a) (by omega) (by omega)) lk_Do_80 [1, 2] (gdec_at D_Do_cutSheet 21 rfl) (st := []) rfl rfl ⟨rfl, rfl⟩ (Nat.le_of_ble_eq_true rfl) rfl (by decide) rfl (Nat.le_of_ble_eq_true rfl) ⟨Nat.le_of_ble_eq_true rfl, Nat.le_of_ble_eq_true rfl⟩ ⟨Nat.le_of_ble_eq_true rfl, Nat.le_of_ble_eq_true rfl⟩ (gAft_r rfl rfl (h' := cDo 0 (upd (dTr D) (a * 4 + t) (((dTr D) (a * 4 + t)) + (cutI D a)), dG D, dSz D, dC D, dSt D, dSh D, dCu D, dLa D, dSw D, dDy D, dDn D, dLt D, dLd D, dSo D)) (st' := []) (pc' := 38) (cs' := 0) (ss' := 0) rfl rfl rfl rfl rfl ?_)
  refine gW_b D_Do_cutSheet 22 4 (pc' := 44) (l' := [(0, .ref 0), (1, .int (nI t)), (2, .int (nI a)), (3, .int ((dSt D) 0)), (4, .int (cutI D a))]) (st' := [.int (-1), .int (nI t), .ref 6]) (h' := cDo 0 (upd (dTr D) (a * 4 + t) (((dTr D) (a * 4 + t)) + (cutI D a)), dG D, dSz D, dC D, dSt D, dSh D, dCu D, dLa D, dSw D, dDy D, dDn D, dLt D, dLd D, dSo D)) (P := True) rfl trivial ?_
  refine gW_callS (m_addAt 4 t (dSh D) (-1) (by omega) (by omega)) lk_Do_84 [6] (gdec_at D_Do_cutSheet 26 rfl) (st := []) rfl rfl ⟨rfl, rfl⟩ (Nat.le_of_ble_eq_true rfl) (Nat.le_of_ble_eq_true rfl) ⟨Nat.le_of_ble_eq_true rfl, Nat.le_of_ble_eq_true rfl⟩ ⟨Nat.le_of_ble_eq_true rfl, Nat.le_of_ble_eq_true rfl⟩ (gAft_r rfl rfl (h' := cDo 0 (upd (dTr D) (a * 4 + t) (((dTr D) (a * 4 + t)) + (cutI D a)), dG D, dSz D, dC D, dSt D, upd (dSh D) t (((dSh D) t) + (-1)), dCu D, dLa D, dSw D, dDy D, dDn D, dLt D, dLd D, dSo D)) (st' := []) (pc' := 47) (cs' := 0) (ss' := 0) rfl rfl rfl rfl rfl ?_)
  refine gW_b D_Do_cutSheet 27 4 (pc' := 53) (l' := [(0, .ref 0), (1, .int (nI t)), (2, .int (nI a)), (3, .int ((dSt D) 0)), (4, .int (cutI D a))]) (st' := [.int ((dSt D) 0), .int (nI t), .ref 7]) (h' := cDo 0 (upd (dTr D) (a * 4 + t) (((dTr D) (a * 4 + t)) + (cutI D a)), dG D, dSz D, dC D, dSt D, upd (dSh D) t (((dSh D) t) + (-1)), dCu D, dLa D, dSw D, dDy D, dDn D, dLt D, dLd D, dSo D)) (P := True) rfl trivial ?_
  refine gW_callS (m_addAt 4 t (dCu D) ((dSt D) 0) (by omega) (by omega)) lk_Do_84 [7] (gdec_at D_Do_cutSheet 31 rfl) (st := []) rfl rfl ⟨rfl, rfl⟩ (Nat.le_of_ble_eq_true rfl) (Nat.le_of_ble_eq_true rfl) ⟨Nat.le_of_ble_eq_true rfl, Nat.le_of_ble_eq_true rfl⟩ ⟨Nat.le_of_ble_eq_true rfl, Nat.le_of_ble_eq_true rfl⟩ (gAft_r rfl rfl (h' := cDo 0 (upd (dTr D) (a * 4 + t) (((dTr D) (a * 4 + t)) + (cutI D a)), dG D, dSz D, dC D, dSt D, upd (dSh D) t (((dSh D) t) + (-1)), upd (dCu D) t (((dCu D) t) + ((dSt D) 0)), dLa D, dSw D, dDy D, dDn D, dLt D, dLd D, dSo D)) (st' := []) (pc' := 56) (cs' := 0) (ss' := 0) rfl rfl rfl rfl rfl ?_)
  refine gW_b D_Do_cutSheet 32 6 (pc' := 65) (l' := [(0, .ref 0), (1, .int (nI t)), (2, .int (nI a)), (3, .int ((dSt D) 0)), (4, .int (cutI D a))]) (st' := [.int (((dSt D) 0) - (cutI D a)), .int (nI t), .ref 9]) (h' := cDo 0 (upd (dTr D) (a * 4 + t) (((dTr D) (a * 4 + t)) + (cutI D a)), dG D, dSz D, dC D, dSt D, upd (dSh D) t (((dSh D) t) + (-1)), upd (dCu D) t (((dCu D) t) + ((dSt D) 0)), dLa D, dSw D, dDy D, dDn D, dLt D, dLd D, dSo D)) (P := True) rfl trivial ?_
  refine gW_callS (m_addAt 4 t (dSw D) (((dSt D) 0) - (cutI D a)) (by omega) (by omega)) lk_Do_84 [9] (gdec_at D_Do_cutSheet 38 rfl) (st := []) rfl rfl ⟨rfl, rfl⟩ (Nat.le_of_ble_eq_true rfl) (Nat.le_of_ble_eq_true rfl) ⟨Nat.le_of_ble_eq_true rfl, Nat.le_of_ble_eq_true rfl⟩ ⟨Nat.le_of_ble_eq_true rfl, Nat.le_of_ble_eq_true rfl⟩ (gAft_r rfl rfl (h' := cDo 0 (upd (dTr D) (a * 4 + t) (((dTr D) (a * 4 + t)) + (cutI D a)), dG D, dSz D, dC D, dSt D, upd (dSh D) t (((dSh D) t) + (-1)), upd (dCu D) t (((dCu D) t) + ((dSt D) 0)), dLa D, upd (dSw D) t (((dSw D) t) + (((dSt D) 0) - (cutI D a))), dDy D, dDn D, dLt D, dLd D, dSo D)) (st' := []) (pc' := 68) (cs' := 0) (ss' := 0) rfl rfl rfl rfl rfl ?_)
  refine gW_b D_Do_cutSheet 39 1 (pc' := 70) (l' := [(0, .ref 0), (1, .int (nI t)), (2, .int (nI a)), (3, .int ((dSt D) 0)), (4, .int (cutI D a))]) (st' := [.int (cutI D a)]) (h' := cDo 0 (upd (dTr D) (a * 4 + t) (((dTr D) (a * 4 + t)) + (cutI D a)), dG D, dSz D, dC D, dSt D, upd (dSh D) t (((dSh D) t) + (-1)), upd (dCu D) t (((dCu D) t) + ((dSt D) 0)), dLa D, upd (dSw D) t (((dSw D) t) + (((dSt D) 0) - (cutI D a))), dDy D, dDn D, dLt D, dLd D, dSo D)) (P := True) rfl trivial ?_
  exact gW_iret (gdec_at D_Do_cutSheet 40 rfl) rfl rfl (Nat.le_of_ble_eq_true rfl) ⟨rfl, rfl⟩ (Nat.le_of_ble_eq_true rfl) (Nat.le_of_ble_eq_true rfl)
def tipS (a b : Nat) (r : Int32) (x : (Nat → Int32) × Int32) (t : Nat) : (Nat → Int32) × Int32 := (pourF x.1 a b t (pmI x.1 a t (frI x.1 b r)), x.2 + pmI x.1 a t (frI x.1 b r))
def tipR (a b : Nat) (r : Int32) (f : Nat → Int32) : Nat → (Nat → Int32) × Int32
  | 0 => (f, 0)
  | t + 1 => tipS a b r (tipR a b r f t) t
def setTr (D : gDom) (f : Nat → Int32) : gDom := (f, D.2)
def tipD (D : gDom) (a b : Nat) : gDom := setTr D (tipR a b (dSt D 1) (dTr D) 4).1
theorem l_tipTray (D : gDom) (a b : Nat) (ha : a < 6) (hb : b < 6) {sc : Nat × (Nat → Int32)} {n0 : Nat} {E : gO → gH → Prop} (kk : gW K_Do_tipTray sc { frames := 3, locals := 68, cells := 0, slots := 0 } n0 E 0 0 45 [(0, .ref 0), (1, .int (nI a)), (2, .int (nI b)), (3, .int ((tipR a b (dSt D 1) (dTr D) 4).2)), (4, .int (nI 4))] [] (cDo 0 ((tipR a b (dSt D 1) (dTr D) 4).1, dG D, dSz D, dC D, dSt D, dSh D, dCu D, dLa D, dSw D, dDy D, dDn D, dLt D, dLd D, dSo D))) : ∀ (n i : Nat), i + n = 4 → gW K_Do_tipTray sc { frames := 3, locals := 68, cells := 0, slots := 0 } n0 E 0 0 5 [(0, .ref 0), (1, .int (nI a)), (2, .int (nI b)), (3, .int ((tipR a b (dSt D 1) (dTr D) i).2)), (4, .int (nI i))] [] (cDo 0 ((tipR a b (dSt D 1) (dTr D) i).1, dG D, dSz D, dC D, dSt D, dSh D, dCu D, dLa D, dSw D, dDy D, dDn D, dLt D, dLd D, dSo D)) := by
  intro n
  induction n with
  | zero =>
    intro i hi
    obtain rfl : 4 = i := by omega
    refine gW_b D_Do_tipTray 4 2 (pc' := 8) (l' := [(0, .ref 0), (1, .int (nI a)), (2, .int (nI b)), (3, .int ((tipR a b (dSt D 1) (dTr D) 4).2)), (4, .int (nI 4))]) (st' := [.int 4, .int (nI 4)]) (h' := cDo 0 ((tipR a b (dSt D 1) (dTr D) 4).1, dG D, dSz D, dC D, dSt D, dSh D, dCu D, dLa D, dSw D, dDy D, dDn D, dLt D, dLd D, dSo D)) (P := True) rfl trivial ?_
    refine gW_ic_ge (gdec_at D_Do_tipTray 6 rfl) (tgt := 45) rfl (fun _ => ?_) (fun c => absurd ((gle (gk 4) (rfl : nI 4 = nI 4) (by omega) (by omega)).mpr (by omega)) c)
    exact kk
  | succ n ih =>
    intro i hi
    refine gW_b D_Do_tipTray 4 2 (pc' := 8) (l' := [(0, .ref 0), (1, .int (nI a)), (2, .int (nI b)), (3, .int ((tipR a b (dSt D 1) (dTr D) i).2)), (4, .int (nI i))]) (st' := [.int 4, .int (nI i)]) (h' := cDo 0 ((tipR a b (dSt D 1) (dTr D) i).1, dG D, dSz D, dC D, dSt D, dSh D, dCu D, dLa D, dSw D, dDy D, dDn D, dLt D, dLd D, dSo D)) (P := True) rfl trivial ?_
    refine gW_ic_ge (gdec_at D_Do_tipTray 6 rfl) (tgt := 45) rfl (fun c => absurd c (mt (gle (gk 4) (rfl : nI i = nI i) (by omega) (by omega)).mp (by omega))) (fun _ => ?_)
    refine gW_b D_Do_tipTray 7 13 (pc' := 31) (l' := [(0, .ref 0), (1, .int (nI a)), (2, .int (nI b)), (3, .int ((tipR a b (dSt D 1) (dTr D) i).2)), (4, .int (nI i))]) (st' := [.int ((dSt D) 1), .int (nI b), .ref 1, .int (nI i), .int (nI b), .int (nI a), .ref 1, .int ((tipR a b (dSt D 1) (dTr D) i).2)]) (h' := cDo 0 ((tipR a b (dSt D 1) (dTr D) i).1, dG D, dSz D, dC D, dSt D, dSh D, dCu D, dLa D, dSw D, dDy D, dDn D, dLt D, dLd D, dSo D)) (P := vp_in 1 6 ∧ True) rfl ⟨(gvl 1 6 (by omega) (by omega)), trivial⟩ ?_
    refine gW_callV (m_freeIn ((tipR a b (dSt D 1) (dTr D) i).1) b ((dSt D) 1) (by omega)) lk_Do_71 [1, 2] (gdec_at D_Do_tipTray 20 rfl) (st := [.int (nI i), .int (nI b), .int (nI a), .ref 1, .int ((tipR a b (dSt D 1) (dTr D) i).2)]) rfl rfl ⟨rfl, rfl⟩ (Nat.le_of_ble_eq_true rfl) rfl (by decide) rfl (Nat.le_of_ble_eq_true rfl) ⟨Nat.le_of_ble_eq_true rfl, Nat.le_of_ble_eq_true rfl⟩ ⟨Nat.le_of_ble_eq_true rfl, Nat.le_of_ble_eq_true rfl⟩ (gAft_r rfl rfl (h' := cDo 0 ((tipR a b (dSt D 1) (dTr D) i).1, dG D, dSz D, dC D, dSt D, dSh D, dCu D, dLa D, dSw D, dDy D, dDn D, dLt D, dLd D, dSo D)) (st' := [.int (frI ((tipR a b (dSt D 1) (dTr D) i).1) b ((dSt D) 1)), .int (nI i), .int (nI b), .int (nI a), .ref 1, .int ((tipR a b (dSt D 1) (dTr D) i).2)]) (pc' := 34) (cs' := 0) (ss' := 0) rfl rfl rfl rfl rfl ?_)
    refine gW_callV (m_pour ((tipR a b (dSt D 1) (dTr D) i).1) a b i (frI ((tipR a b (dSt D 1) (dTr D) i).1) b ((dSt D) 1)) (by omega) (by omega) (by omega)) lk_Do_88 [1, 2] (gdec_at D_Do_tipTray 21 rfl) (st := [.int ((tipR a b (dSt D 1) (dTr D) i).2)]) rfl rfl ⟨rfl, rfl⟩ (Nat.le_of_ble_eq_true rfl) rfl (by decide) rfl (Nat.le_of_ble_eq_true rfl) ⟨Nat.le_of_ble_eq_true rfl, Nat.le_of_ble_eq_true rfl⟩ ⟨Nat.le_of_ble_eq_true rfl, Nat.le_of_ble_eq_true rfl⟩ (gAft_r rfl rfl (h' := cDo 0 (pourF ((tipR a b (dSt D 1) (dTr D) i).1) a b i (pmI ((tipR a b (dSt D 1) (dTr D) i).1) a i (frI ((tipR a b (dSt D 1) (dTr D) i).1) b ((dSt D) 1))), dG D, dSz D, dC D, dSt D, dSh D, dCu D, dLa D, dSw D, dDy D, dDn D, dLt D, dLd D, dSo D)) (st' := [.int (pmI ((tipR a b (dSt D 1) (dTr D) i).1) a i (frI ((tipR a b (dSt D 1) (dTr D) i).1) b ((dSt D) 1))), .int ((tipR a b (dSt D 1) (dTr D) i).2)]) (pc' := 37) (cs' := 0) (ss' := 0) rfl rfl rfl rfl rfl ?_)
    refine gW_b D_Do_tipTray 22 4 (pc' := 5) (l' := [(0, .ref 0), (1, .int (nI a)), (2, .int (nI b)), (3, .int (((tipR a b (dSt D 1) (dTr D) i).2) + (pmI ((tipR a b (dSt D 1) (dTr D) i).1) a i (frI ((tipR a b (dSt D 1) (dTr D) i).1) b ((dSt D) 1))))), (4, .int ((nI i) + 1))]) (st' := []) (h' := cDo 0 (pourF ((tipR a b (dSt D 1) (dTr D) i).1) a b i (pmI ((tipR a b (dSt D 1) (dTr D) i).1) a i (frI ((tipR a b (dSt D 1) (dTr D) i).1) b ((dSt D) 1))), dG D, dSz D, dC D, dSt D, dSh D, dCu D, dLa D, dSw D, dDy D, dDn D, dLt D, dLd D, dSo D)) (P := True) rfl trivial ?_
    rw [show ((nI i) + 1 : Int32) = nI (i + 1) from (gadd (rfl : nI i = nI i) (gk 1))]
    show gW K_Do_tipTray sc { frames := 3, locals := 68, cells := 0, slots := 0 } n0 E 0 0 5 [(0, .ref 0), (1, .int (nI a)), (2, .int (nI b)), (3, .int ((tipR a b (dSt D 1) (dTr D) (i + 1)).2)), (4, .int (nI (i + 1)))] [] (cDo 0 ((tipR a b (dSt D 1) (dTr D) (i + 1)).1, dG D, dSz D, dC D, dSt D, dSh D, dCu D, dLa D, dSw D, dDy D, dDn D, dLt D, dLd D, dSo D))
    exact ih (i + 1) (by omega)
theorem m_tipTray (D : gDom) (a b : Nat) (ha : a < 6) (hb : b < 6) : gM K_Do_tipTray { frames := 3, locals := 68, cells := 0, slots := 0 } [.ref 0, .int (nI a), .int (nI b)] (cDo 0 D) (gD (.inl (some (.int ((tipR a b (dSt D 1) (dTr D) 4).2)))) (cDo 0 (tipD D a b))) := by
  refine gM_of rfl rfl (Nat.le_of_ble_eq_true rfl) (fun sc => ?_)
  refine gW_b D_Do_tipTray 0 4 (pc' := 5) (l' := [(0, .ref 0), (1, .int (nI a)), (2, .int (nI b)), (3, .int 0), (4, .int 0)]) (st' := []) (h' := cDo 0 D) (P := True) rfl trivial ?_
  refine l_tipTray D a b ha hb ?_ 4 0 rfl
  refine gW_b D_Do_tipTray 26 1 (pc' := 46) (l' := [(0, .ref 0), (1, .int (nI a)), (2, .int (nI b)), (3, .int ((tipR a b (dSt D 1) (dTr D) 4).2)), (4, .int (nI 4))]) (st' := [.int ((tipR a b (dSt D 1) (dTr D) 4).2)]) (h' := cDo 0 ((tipR a b (dSt D 1) (dTr D) 4).1, dG D, dSz D, dC D, dSt D, dSh D, dCu D, dLa D, dSw D, dDy D, dDn D, dLt D, dLd D, dSo D)) (P := True) rfl trivial ?_
  exact gW_iret (gdec_at D_Do_tipTray 27 rfl) rfl rfl (Nat.le_of_ble_eq_true rfl) ⟨rfl, rfl⟩ (Nat.le_of_ble_eq_true rfl) (Nat.le_of_ble_eq_true rfl)
def swpS (a : Nat) (x : (Nat → Int32) × (Nat → Int32) × Int32) (t : Nat) : (Nat → Int32) × (Nat → Int32) × Int32 := (upd x.1 (a * 4 + t) (x.1 (a * 4 + t) + -(x.1 (a * 4 + t))), upd x.2.1 t (x.2.1 t + x.1 (a * 4 + t)), x.2.2 + x.1 (a * 4 + t))
def swpR (a : Nat) (f s : Nat → Int32) : Nat → (Nat → Int32) × (Nat → Int32) × Int32
  | 0 => (f, s, 0)
  | t + 1 => swpS a (swpR a f s t) t
def swpD (D : gDom) (a : Nat) : gDom := ((swpR a (dTr D) (dSw D) 4).1, dG D, dSz D, dC D, dSt D, dSh D, dCu D, dLa D, (swpR a (dTr D) (dSw D) 4).2.1, dDy D, dDn D, dLt D, dLd D, dSo D)
theorem l_sweepTray (D : gDom) (a : Nat) (ha : a < 6) {sc : Nat × (Nat → Int32)} {n0 : Nat} {E : gO → gH → Prop} (kk : gW K_Do_sweepTray sc { frames := 2, locals := 46, cells := 0, slots := 0 } n0 E 0 0 41 [(0, .ref 0), (1, .int (nI a)), (2, .int ((swpR a (dTr D) (dSw D) 4).2.2)), (3, .int (nI 4))] [] (cDo 0 ((swpR a (dTr D) (dSw D) 4).1, dG D, dSz D, dC D, dSt D, dSh D, dCu D, dLa D, (swpR a (dTr D) (dSw D) 4).2.1, dDy D, dDn D, dLt D, dLd D, dSo D))) : ∀ (n i : Nat), i + n = 4 → gW K_Do_sweepTray sc { frames := 2, locals := 46, cells := 0, slots := 0 } n0 E 0 0 4 [(0, .ref 0), (1, .int (nI a)), (2, .int ((swpR a (dTr D) (dSw D) i).2.2)), (3, .int (nI i))] [] (cDo 0 ((swpR a (dTr D) (dSw D) i).1, dG D, dSz D, dC D, dSt D, dSh D, dCu D, dLa D, (swpR a (dTr D) (dSw D) i).2.1, dDy D, dDn D, dLt D, dLd D, dSo D)) := by
  intro n
  induction n with
  | zero =>
    intro i hi
    obtain rfl : 4 = i := by omega
    refine gW_b D_Do_sweepTray 4 2 (pc' := 6) (l' := [(0, .ref 0), (1, .int (nI a)), (2, .int ((swpR a (dTr D) (dSw D) 4).2.2)), (3, .int (nI 4))]) (st' := [.int 4, .int (nI 4)]) (h' := cDo 0 ((swpR a (dTr D) (dSw D) 4).1, dG D, dSz D, dC D, dSt D, dSh D, dCu D, dLa D, (swpR a (dTr D) (dSw D) 4).2.1, dDy D, dDn D, dLt D, dLd D, dSo D)) (P := True) rfl trivial ?_
    refine gW_ic_ge (gdec_at D_Do_sweepTray 6 rfl) (tgt := 41) rfl (fun _ => ?_) (fun c => absurd ((gle (gk 4) (rfl : nI 4 = nI 4) (by omega) (by omega)).mpr (by omega)) c)
    exact kk
  | succ n ih =>
    intro i hi
    refine gW_b D_Do_sweepTray 4 2 (pc' := 6) (l' := [(0, .ref 0), (1, .int (nI a)), (2, .int ((swpR a (dTr D) (dSw D) i).2.2)), (3, .int (nI i))]) (st' := [.int 4, .int (nI i)]) (h' := cDo 0 ((swpR a (dTr D) (dSw D) i).1, dG D, dSz D, dC D, dSt D, dSh D, dCu D, dLa D, (swpR a (dTr D) (dSw D) i).2.1, dDy D, dDn D, dLt D, dLd D, dSo D)) (P := True) rfl trivial ?_
    refine gW_ic_ge (gdec_at D_Do_sweepTray 6 rfl) (tgt := 41) rfl (fun c => absurd c (mt (gle (gk 4) (rfl : nI i = nI i) (by omega) (by omega)).mp (by omega))) (fun _ => ?_)
    refine gW_b D_Do_sweepTray 7 4 (pc' := 15) (l' := [(0, .ref 0), (1, .int (nI a)), (2, .int ((swpR a (dTr D) (dSw D) i).2.2)), (3, .int (nI i))]) (st' := [.int (nI i), .int (nI a), .ref 1]) (h' := cDo 0 ((swpR a (dTr D) (dSw D) i).1, dG D, dSz D, dC D, dSt D, dSh D, dCu D, dLa D, (swpR a (dTr D) (dSw D) i).2.1, dDy D, dDn D, dLt D, dLd D, dSo D)) (P := True) rfl trivial ?_
    refine gW_callV (m_clear ((swpR a (dTr D) (dSw D) i).1) a i (by omega) (by omega)) lk_Do_92 [1, 2] (gdec_at D_Do_sweepTray 11 rfl) (st := []) rfl rfl ⟨rfl, rfl⟩ (Nat.le_of_ble_eq_true rfl) rfl (by decide) rfl (Nat.le_of_ble_eq_true rfl) ⟨Nat.le_of_ble_eq_true rfl, Nat.le_of_ble_eq_true rfl⟩ ⟨Nat.le_of_ble_eq_true rfl, Nat.le_of_ble_eq_true rfl⟩ (gAft_r rfl rfl (h' := cDo 0 (upd ((swpR a (dTr D) (dSw D) i).1) (a * 4 + i) ((((swpR a (dTr D) (dSw D) i).1) (a * 4 + i)) + -(((swpR a (dTr D) (dSw D) i).1) (a * 4 + i))), dG D, dSz D, dC D, dSt D, dSh D, dCu D, dLa D, (swpR a (dTr D) (dSw D) i).2.1, dDy D, dDn D, dLt D, dLd D, dSo D)) (st' := [.int (((swpR a (dTr D) (dSw D) i).1) (a * 4 + i))]) (pc' := 18) (cs' := 0) (ss' := 0) rfl rfl rfl rfl rfl ?_)
    refine gW_b D_Do_sweepTray 12 5 (pc' := 27) (l' := [(0, .ref 0), (1, .int (nI a)), (2, .int ((swpR a (dTr D) (dSw D) i).2.2)), (3, .int (nI i)), (4, .int (((swpR a (dTr D) (dSw D) i).1) (a * 4 + i)))]) (st' := [.int (((swpR a (dTr D) (dSw D) i).1) (a * 4 + i)), .int (nI i), .ref 9]) (h' := cDo 0 (upd ((swpR a (dTr D) (dSw D) i).1) (a * 4 + i) ((((swpR a (dTr D) (dSw D) i).1) (a * 4 + i)) + -(((swpR a (dTr D) (dSw D) i).1) (a * 4 + i))), dG D, dSz D, dC D, dSt D, dSh D, dCu D, dLa D, (swpR a (dTr D) (dSw D) i).2.1, dDy D, dDn D, dLt D, dLd D, dSo D)) (P := True) rfl trivial ?_
    refine gW_callS (m_addAt 4 i ((swpR a (dTr D) (dSw D) i).2.1) (((swpR a (dTr D) (dSw D) i).1) (a * 4 + i)) (by omega) (by omega)) lk_Do_84 [9] (gdec_at D_Do_sweepTray 17 rfl) (st := []) rfl rfl ⟨rfl, rfl⟩ (Nat.le_of_ble_eq_true rfl) (Nat.le_of_ble_eq_true rfl) ⟨Nat.le_of_ble_eq_true rfl, Nat.le_of_ble_eq_true rfl⟩ ⟨Nat.le_of_ble_eq_true rfl, Nat.le_of_ble_eq_true rfl⟩ (gAft_r rfl rfl (h' := cDo 0 (upd ((swpR a (dTr D) (dSw D) i).1) (a * 4 + i) ((((swpR a (dTr D) (dSw D) i).1) (a * 4 + i)) + -(((swpR a (dTr D) (dSw D) i).1) (a * 4 + i))), dG D, dSz D, dC D, dSt D, dSh D, dCu D, dLa D, upd ((swpR a (dTr D) (dSw D) i).2.1) i ((((swpR a (dTr D) (dSw D) i).2.1) i) + (((swpR a (dTr D) (dSw D) i).1) (a * 4 + i))), dDy D, dDn D, dLt D, dLd D, dSo D)) (st' := []) (pc' := 30) (cs' := 0) (ss' := 0) rfl rfl rfl rfl rfl ?_)
    refine gW_b D_Do_sweepTray 18 6 (pc' := 4) (l' := [(0, .ref 0), (1, .int (nI a)), (2, .int (((swpR a (dTr D) (dSw D) i).2.2) + (((swpR a (dTr D) (dSw D) i).1) (a * 4 + i)))), (3, .int ((nI i) + 1)), (4, .int (((swpR a (dTr D) (dSw D) i).1) (a * 4 + i)))]) (st' := []) (h' := cDo 0 (upd ((swpR a (dTr D) (dSw D) i).1) (a * 4 + i) ((((swpR a (dTr D) (dSw D) i).1) (a * 4 + i)) + -(((swpR a (dTr D) (dSw D) i).1) (a * 4 + i))), dG D, dSz D, dC D, dSt D, dSh D, dCu D, dLa D, upd ((swpR a (dTr D) (dSw D) i).2.1) i ((((swpR a (dTr D) (dSw D) i).2.1) i) + (((swpR a (dTr D) (dSw D) i).1) (a * 4 + i))), dDy D, dDn D, dLt D, dLd D, dSo D)) (P := True) rfl trivial ?_
    rw [show ((nI i) + 1 : Int32) = nI (i + 1) from (gadd (rfl : nI i = nI i) (gk 1))]
    refine gW_l [0, 1, 2, 3] (l' := [(0, .ref 0), (1, .int (nI a)), (2, .int (((swpR a (dTr D) (dSw D) i).2.2) + (((swpR a (dTr D) (dSw D) i).1) (a * 4 + i)))), (3, .int (nI (i + 1)))]) rfl ?_
    show gW K_Do_sweepTray sc { frames := 2, locals := 46, cells := 0, slots := 0 } n0 E 0 0 4 [(0, .ref 0), (1, .int (nI a)), (2, .int ((swpR a (dTr D) (dSw D) (i + 1)).2.2)), (3, .int (nI (i + 1)))] [] (cDo 0 ((swpR a (dTr D) (dSw D) (i + 1)).1, dG D, dSz D, dC D, dSt D, dSh D, dCu D, dLa D, (swpR a (dTr D) (dSw D) (i + 1)).2.1, dDy D, dDn D, dLt D, dLd D, dSo D))
    exact ih (i + 1) (by omega)
theorem m_sweepTray (D : gDom) (a : Nat) (ha : a < 6) : gM K_Do_sweepTray { frames := 2, locals := 46, cells := 0, slots := 0 } [.ref 0, .int (nI a)] (cDo 0 D) (gD (.inl (some (.int ((swpR a (dTr D) (dSw D) 4).2.2)))) (cDo 0 (swpD D a))) := by
  refine gM_of rfl rfl (Nat.le_of_ble_eq_true rfl) (fun sc => ?_)
  refine gW_b D_Do_sweepTray 0 4 (pc' := 4) (l' := [(0, .ref 0), (1, .int (nI a)), (2, .int 0), (3, .int 0)]) (st' := []) (h' := cDo 0 D) (P := True) rfl trivial ?_
  refine l_sweepTray D a ha ?_ 4 0 rfl
  refine gW_b D_Do_sweepTray 24 1 (pc' := 42) (l' := [(0, .ref 0), (1, .int (nI a)), (2, .int ((swpR a (dTr D) (dSw D) 4).2.2)), (3, .int (nI 4))]) (st' := [.int ((swpR a (dTr D) (dSw D) 4).2.2)]) (h' := cDo 0 ((swpR a (dTr D) (dSw D) 4).1, dG D, dSz D, dC D, dSt D, dSh D, dCu D, dLa D, (swpR a (dTr D) (dSw D) 4).2.1, dDy D, dDn D, dLt D, dLd D, dSo D)) (P := True) rfl trivial ?_
  exact gW_iret (gdec_at D_Do_sweepTray 25 rfl) rfl rfl (Nat.le_of_ble_eq_true rfl) ⟨rfl, rfl⟩ (Nat.le_of_ble_eq_true rfl) (Nat.le_of_ble_eq_true rfl)
def setG (D : gDom) (g : Nat → Int32) : gDom := (dTr D, g, D.2.2)
def addD (D : gDom) (t u d : Int32) : gDom := (dTr D, arrO (keyOf (dSt D 2)) (adF (dG D) (dSz D) (dC D) t u d) (dSz D + 1 - 1), dSz D + 1, dC D + 1, D.2.2.2.2)

theorem m_addSection (D : gDom) (t u d : Int32) (hs : dSz D < 10) : gM K_Do_addSection { frames := 3, locals := 72, cells := 0, slots := 0 } [.ref 0, .int t, .int u, .int d] (cDo 0 D) (gD (.inl (some (.int (dC D)))) (cDo 0 (addD D t u d))) := by
  refine gM_of rfl rfl (Nat.le_of_ble_eq_true rfl) (fun sc => ?_)
  refine gW_b D_Do_addSection 0 5 (pc' := 7) (l' := [(0, .ref 0), (1, .int t), (2, .int u), (3, .int d)]) (st' := [.int d, .int u, .int t, .ref 3]) (h' := cDo 0 D) (P := True) rfl trivial ?_
  refine gW_callV (m_add (dG D) (dSz D) (dC D) t u d (by omega)) lk_Do_95 [3, 4] (gdec_at D_Do_addSection 5 rfl) (st := []) rfl rfl ⟨rfl, rfl⟩ (Nat.le_of_ble_eq_true rfl) rfl (by decide) rfl (Nat.le_of_ble_eq_true rfl) ⟨Nat.le_of_ble_eq_true rfl, Nat.le_of_ble_eq_true rfl⟩ ⟨Nat.le_of_ble_eq_true rfl, Nat.le_of_ble_eq_true rfl⟩ (gAft_r rfl rfl (h' := cDo 0 (dTr D, adF (dG D) (dSz D) (dC D) t u d, dSz D + 1, (dC D) + 1, dSt D, dSh D, dCu D, dLa D, dSw D, dDy D, dDn D, dLt D, dLd D, dSo D)) (st' := [.int (dC D)]) (pc' := 10) (cs' := 0) (ss' := 0) rfl rfl rfl rfl rfl ?_)
  refine gW_b D_Do_addSection 6 7 (pc' := 22) (l' := [(0, .ref 0), (1, .int t), (2, .int u), (3, .int d), (4, .int (dC D))]) (st' := [.int ((dSt D) 2), .ref 3]) (h' := cDo 0 (dTr D, adF (dG D) (dSz D) (dC D) t u d, dSz D + 1, (dC D) + 1, dSt D, dSh D, dCu D, dLa D, dSw D, dDy D, dDn D, dLt D, dLd D, dSo D)) (P := vp_in 2 6 ∧ True) rfl ⟨(gvl 2 6 (by omega) (by omega)), trivial⟩ ?_
  refine gW_callV (m_arrange (adF (dG D) (dSz D) (dC D) t u d) (dSz D + 1) ((dC D) + 1) ((dSt D) 2) (by omega)) lk_Do_99 [3, 4] (gdec_at D_Do_addSection 13 rfl) (st := []) rfl rfl ⟨rfl, rfl⟩ (Nat.le_of_ble_eq_true rfl) rfl (by decide) rfl (Nat.le_of_ble_eq_true rfl) ⟨Nat.le_of_ble_eq_true rfl, Nat.le_of_ble_eq_true rfl⟩ ⟨Nat.le_of_ble_eq_true rfl, Nat.le_of_ble_eq_true rfl⟩ (gAft_r rfl rfl (h' := cDo 0 (dTr D, arrO (keyOf ((dSt D) 2)) (adF (dG D) (dSz D) (dC D) t u d) ((dSz D + 1) - 1), dSz D + 1, (dC D) + 1, dSt D, dSh D, dCu D, dLa D, dSw D, dDy D, dDn D, dLt D, dLd D, dSo D)) (st' := []) (pc' := 25) (cs' := 0) (ss' := 0) rfl rfl rfl rfl rfl ?_)
  refine gW_b D_Do_addSection 14 1 (pc' := 27) (l' := [(0, .ref 0), (1, .int t), (2, .int u), (3, .int d), (4, .int (dC D))]) (st' := [.int (dC D)]) (h' := cDo 0 (dTr D, arrO (keyOf ((dSt D) 2)) (adF (dG D) (dSz D) (dC D) t u d) ((dSz D + 1) - 1), dSz D + 1, (dC D) + 1, dSt D, dSh D, dCu D, dLa D, dSw D, dDy D, dDn D, dLt D, dLd D, dSo D)) (P := True) rfl trivial ?_
  exact gW_iret (gdec_at D_Do_addSection 15 rfl) rfl rfl (Nat.le_of_ble_eq_true rfl) ⟨rfl, rfl⟩ (Nat.le_of_ble_eq_true rfl) (Nat.le_of_ble_eq_true rfl)
/-- a tone as a number -/
abbrev tnx (x : Int32) : Nat := x.toNatClampNeg
abbrev okT (x : Int32) : Prop := x = nI (tnx x) ∧ tnx x < 4
/-- what a walk asks of a dome: few sections, their tones are tones -/
def dOK (D : gDom) : Prop := dSz D ≤ 10 ∧ ∀ p, p < dSz D → okT (dG D (p * 5 + 1))
def drpD (D : gDom) (p : Nat) : gDom := (dTr D, rmO (dG D) p (dSz D - 1 - p), dSz D - 1, dC D, dSt D, dSh D, dCu D, upd (dLa D) (tnx (dG D (p * 5 + 1))) (dLa D (tnx (dG D (p * 5 + 1))) + -(dG D (p * 5 + 4))), upd (dSw D) (tnx (dG D (p * 5 + 1))) (dSw D (tnx (dG D (p * 5 + 1))) + dG D (p * 5 + 4)), D.2.2.2.2.2.2.2.2.2)

theorem m_dropSection (D : gDom) (p : Nat) (hok : dOK D) (hp : p < dSz D) : gM K_Do_dropSection { frames := 2, locals := 46, cells := 0, slots := 0 } [.ref 0, .int (nI p)] (cDo 0 D) (gD (.inl (some (.int (dG D (p * 5 + 4))))) (cDo 0 (drpD D p))) := by
  refine gM_of rfl rfl (Nat.le_of_ble_eq_true rfl) (fun sc => ?_)
  obtain ⟨hs, hts⟩ := id hok
  obtain ⟨hT, hT4⟩ := hts p hp
  refine gW_b D_Do_dropSection 0 4 (pc' := 6) (l' := [(0, .ref 0), (1, .int (nI p))]) (st' := [.int 1, .int (nI p), .ref 3]) (h' := cDo 0 D) (P := True) rfl trivial ?_
  refine gW_callV (m_valueOf (dG D) (dSz D) (dC D) p 1 (by omega) (by omega) (by omega)) lk_Do_103 [3, 4] (gdec_at D_Do_dropSection 4 rfl) (st := []) rfl rfl ⟨rfl, rfl⟩ (Nat.le_of_ble_eq_true rfl) rfl (by decide) rfl (Nat.le_of_ble_eq_true rfl) ⟨Nat.le_of_ble_eq_true rfl, Nat.le_of_ble_eq_true rfl⟩ ⟨Nat.le_of_ble_eq_true rfl, Nat.le_of_ble_eq_true rfl⟩ (gAft_r rfl rfl (h' := cDo 0 D) (st' := [.int ((dG D) (p * 5 + 1))]) (pc' := 9) (cs' := 0) (ss' := 0) rfl rfl rfl rfl rfl ?_)
  refine gW_b D_Do_dropSection 5 5 (pc' := 16) (l' := [(0, .ref 0), (1, .int (nI p)), (2, .int ((dG D) (p * 5 + 1)))]) (st' := [.int 4, .int (nI p), .ref 3]) (h' := cDo 0 D) (P := True) rfl trivial ?_
  refine gW_callV (m_valueOf (dG D) (dSz D) (dC D) p 4 (by omega) (by omega) (by omega)) lk_Do_103 [3, 4] (gdec_at D_Do_dropSection 10 rfl) (st := []) rfl rfl ⟨rfl, rfl⟩ (Nat.le_of_ble_eq_true rfl) rfl (by decide) rfl (Nat.le_of_ble_eq_true rfl) ⟨Nat.le_of_ble_eq_true rfl, Nat.le_of_ble_eq_true rfl⟩ ⟨Nat.le_of_ble_eq_true rfl, Nat.le_of_ble_eq_true rfl⟩ (gAft_r rfl rfl (h' := cDo 0 D) (st' := [.int ((dG D) (p * 5 + 4))]) (pc' := 19) (cs' := 0) (ss' := 0) rfl rfl rfl rfl rfl ?_)
  refine gW_b D_Do_dropSection 11 6 (pc' := 27) (l' := [(0, .ref 0), (1, .int (nI p)), (2, .int ((dG D) (p * 5 + 1))), (3, .int ((dG D) (p * 5 + 4)))]) (st' := [.int (-((dG D) (p * 5 + 4))), .int ((dG D) (p * 5 + 1)), .ref 8]) (h' := cDo 0 D) (P := True) rfl trivial ?_
  rw [show ((dG D) (p * 5 + 1) : Int32) = nI (tnx (dG D (p * 5 + 1))) from hT]
  refine gW_callS (m_addAt 4 (tnx (dG D (p * 5 + 1))) (dLa D) (-((dG D) (p * 5 + 4))) (by omega) (by omega)) lk_Do_84 [8] (gdec_at D_Do_dropSection 17 rfl) (st := []) rfl rfl ⟨rfl, rfl⟩ (Nat.le_of_ble_eq_true rfl) (Nat.le_of_ble_eq_true rfl) ⟨Nat.le_of_ble_eq_true rfl, Nat.le_of_ble_eq_true rfl⟩ ⟨Nat.le_of_ble_eq_true rfl, Nat.le_of_ble_eq_true rfl⟩ (gAft_r rfl rfl (h' := cDo 0 (dTr D, dG D, dSz D, dC D, dSt D, dSh D, dCu D, upd (dLa D) (tnx (dG D (p * 5 + 1))) (((dLa D) (tnx (dG D (p * 5 + 1)))) + (-((dG D) (p * 5 + 4)))), dSw D, dDy D, dDn D, dLt D, dLd D, dSo D)) (st' := []) (pc' := 30) (cs' := 0) (ss' := 0) rfl rfl rfl rfl rfl ?_)
  refine gW_b D_Do_dropSection 18 4 (pc' := 36) (l' := [(0, .ref 0), (1, .int (nI p)), (2, .int (nI (tnx (dG D (p * 5 + 1))))), (3, .int ((dG D) (p * 5 + 4)))]) (st' := [.int ((dG D) (p * 5 + 4)), .int (nI (tnx (dG D (p * 5 + 1)))), .ref 9]) (h' := cDo 0 (dTr D, dG D, dSz D, dC D, dSt D, dSh D, dCu D, upd (dLa D) (tnx (dG D (p * 5 + 1))) (((dLa D) (tnx (dG D (p * 5 + 1)))) + (-((dG D) (p * 5 + 4)))), dSw D, dDy D, dDn D, dLt D, dLd D, dSo D)) (P := True) rfl trivial ?_
  refine gW_callS (m_addAt 4 (tnx (dG D (p * 5 + 1))) (dSw D) ((dG D) (p * 5 + 4)) (by omega) (by omega)) lk_Do_84 [9] (gdec_at D_Do_dropSection 22 rfl) (st := []) rfl rfl ⟨rfl, rfl⟩ (Nat.le_of_ble_eq_true rfl) (Nat.le_of_ble_eq_true rfl) ⟨Nat.le_of_ble_eq_true rfl, Nat.le_of_ble_eq_true rfl⟩ ⟨Nat.le_of_ble_eq_true rfl, Nat.le_of_ble_eq_true rfl⟩ (gAft_r rfl rfl (h' := cDo 0 (dTr D, dG D, dSz D, dC D, dSt D, dSh D, dCu D, upd (dLa D) (tnx (dG D (p * 5 + 1))) (((dLa D) (tnx (dG D (p * 5 + 1)))) + (-((dG D) (p * 5 + 4)))), upd (dSw D) (tnx (dG D (p * 5 + 1))) (((dSw D) (tnx (dG D (p * 5 + 1)))) + ((dG D) (p * 5 + 4))), dDy D, dDn D, dLt D, dLd D, dSo D)) (st' := []) (pc' := 39) (cs' := 0) (ss' := 0) rfl rfl rfl rfl rfl ?_)
  refine gW_b D_Do_dropSection 23 3 (pc' := 44) (l' := [(0, .ref 0), (1, .int (nI p)), (2, .int (nI (tnx (dG D (p * 5 + 1))))), (3, .int ((dG D) (p * 5 + 4)))]) (st' := [.int (nI p), .ref 3]) (h' := cDo 0 (dTr D, dG D, dSz D, dC D, dSt D, dSh D, dCu D, upd (dLa D) (tnx (dG D (p * 5 + 1))) (((dLa D) (tnx (dG D (p * 5 + 1)))) + (-((dG D) (p * 5 + 4)))), upd (dSw D) (tnx (dG D (p * 5 + 1))) (((dSw D) (tnx (dG D (p * 5 + 1)))) + ((dG D) (p * 5 + 4))), dDy D, dDn D, dLt D, dLd D, dSo D)) (P := True) rfl trivial ?_
  refine gW_callV (m_remove (dG D) (dSz D) (dC D) p (by omega) (by omega)) lk_Do_106 [3, 4] (gdec_at D_Do_dropSection 26 rfl) (st := []) rfl rfl ⟨rfl, rfl⟩ (Nat.le_of_ble_eq_true rfl) rfl (by decide) rfl (Nat.le_of_ble_eq_true rfl) ⟨Nat.le_of_ble_eq_true rfl, Nat.le_of_ble_eq_true rfl⟩ ⟨Nat.le_of_ble_eq_true rfl, Nat.le_of_ble_eq_true rfl⟩ (gAft_r rfl rfl (h' := cDo 0 (dTr D, rmO (dG D) p ((dSz D) - 1 - p), (dSz D) - 1, dC D, dSt D, dSh D, dCu D, upd (dLa D) (tnx (dG D (p * 5 + 1))) (((dLa D) (tnx (dG D (p * 5 + 1)))) + (-((dG D) (p * 5 + 4)))), upd (dSw D) (tnx (dG D (p * 5 + 1))) (((dSw D) (tnx (dG D (p * 5 + 1)))) + ((dG D) (p * 5 + 4))), dDy D, dDn D, dLt D, dLd D, dSo D)) (st' := []) (pc' := 47) (cs' := 0) (ss' := 0) rfl rfl rfl rfl rfl ?_)
  refine gW_b D_Do_dropSection 27 1 (pc' := 48) (l' := [(0, .ref 0), (1, .int (nI p)), (2, .int (nI (tnx (dG D (p * 5 + 1))))), (3, .int ((dG D) (p * 5 + 4)))]) (st' := [.int ((dG D) (p * 5 + 4))]) (h' := cDo 0 (dTr D, rmO (dG D) p ((dSz D) - 1 - p), (dSz D) - 1, dC D, dSt D, dSh D, dCu D, upd (dLa D) (tnx (dG D (p * 5 + 1))) (((dLa D) (tnx (dG D (p * 5 + 1)))) + (-((dG D) (p * 5 + 4)))), upd (dSw D) (tnx (dG D (p * 5 + 1))) (((dSw D) (tnx (dG D (p * 5 + 1)))) + ((dG D) (p * 5 + 4))), dDy D, dDn D, dLt D, dLd D, dSo D)) (P := True) rfl trivial ?_
  exact gW_iret (gdec_at D_Do_dropSection 28 rfl) rfl rfl (Nat.le_of_ble_eq_true rfl) ⟨rfl, rfl⟩ (Nat.le_of_ble_eq_true rfl) (Nat.le_of_ble_eq_true rfl)
def chgD (D : gDom) (s : Nat) (v : Int32) : gDom := (dTr D, arrO (keyOf (upd (dSt D) s (dSt D s + (v - dSt D s)) 2)) (dG D) (dSz D - 1), dSz D, dC D, upd (dSt D) s (dSt D s + (v - dSt D s)), D.2.2.2.2.2)

theorem m_changeSetting (D : gDom) (s : Nat) (v : Int32) (hs6 : s < 6) (hs : dSz D ≤ 10) : gM K_Do_changeSetting { frames := 3, locals := 72, cells := 0, slots := 0 } [.ref 0, .int (nI s), .int v] (cDo 0 D) (gD (.inl (some (.int (dSt D s)))) (cDo 0 (chgD D s v))) := by
  refine gM_of rfl rfl (Nat.le_of_ble_eq_true rfl) (fun sc => ?_)
  refine gW_b D_Do_changeSetting 0 3 (pc' := 5) (l' := [(0, .ref 0), (1, .int (nI s)), (2, .int v)]) (st' := [.int (nI s), .ref 5]) (h' := cDo 0 D) (P := True) rfl trivial ?_
  refine gW_callS (m_valueAt 6 s (dSt D) (by omega) (by omega)) lk_Do_109 [5] (gdec_at D_Do_changeSetting 3 rfl) (st := []) rfl rfl ⟨rfl, rfl⟩ (Nat.le_of_ble_eq_true rfl) (Nat.le_of_ble_eq_true rfl) ⟨Nat.le_of_ble_eq_true rfl, Nat.le_of_ble_eq_true rfl⟩ ⟨Nat.le_of_ble_eq_true rfl, Nat.le_of_ble_eq_true rfl⟩ (gAft_r rfl rfl (h' := cDo 0 D) (st' := [.int ((dSt D) s)]) (pc' := 8) (cs' := 0) (ss' := 0) rfl rfl rfl rfl rfl ?_)
  refine gW_b D_Do_changeSetting 4 7 (pc' := 17) (l' := [(0, .ref 0), (1, .int (nI s)), (2, .int v), (3, .int ((dSt D) s))]) (st' := [.int (v - ((dSt D) s)), .int (nI s), .ref 5]) (h' := cDo 0 D) (P := True) rfl trivial ?_
  refine gW_callS (m_addAt 6 s (dSt D) (v - ((dSt D) s)) (by omega) (by omega)) lk_Do_84 [5] (gdec_at D_Do_changeSetting 11 rfl) (st := []) rfl rfl ⟨rfl, rfl⟩ (Nat.le_of_ble_eq_true rfl) (Nat.le_of_ble_eq_true rfl) ⟨Nat.le_of_ble_eq_true rfl, Nat.le_of_ble_eq_true rfl⟩ ⟨Nat.le_of_ble_eq_true rfl, Nat.le_of_ble_eq_true rfl⟩ (gAft_r rfl rfl (h' := cDo 0 (dTr D, dG D, dSz D, dC D, upd (dSt D) s (((dSt D) s) + (v - ((dSt D) s))), dSh D, dCu D, dLa D, dSw D, dDy D, dDn D, dLt D, dLd D, dSo D)) (st' := []) (pc' := 20) (cs' := 0) (ss' := 0) rfl rfl rfl rfl rfl ?_)
  refine gW_b D_Do_changeSetting 12 6 (pc' := 30) (l' := [(0, .ref 0), (1, .int (nI s)), (2, .int v), (3, .int ((dSt D) s))]) (st' := [.int ((upd (dSt D) s (((dSt D) s) + (v - ((dSt D) s)))) 2), .ref 3]) (h' := cDo 0 (dTr D, dG D, dSz D, dC D, upd (dSt D) s (((dSt D) s) + (v - ((dSt D) s))), dSh D, dCu D, dLa D, dSw D, dDy D, dDn D, dLt D, dLd D, dSo D)) (P := vp_in 2 6 ∧ True) rfl ⟨(gvl 2 6 (by omega) (by omega)), trivial⟩ ?_
  refine gW_callV (m_arrange (dG D) (dSz D) (dC D) ((upd (dSt D) s (((dSt D) s) + (v - ((dSt D) s)))) 2) (by omega)) lk_Do_99 [3, 4] (gdec_at D_Do_changeSetting 18 rfl) (st := []) rfl rfl ⟨rfl, rfl⟩ (Nat.le_of_ble_eq_true rfl) rfl (by decide) rfl (Nat.le_of_ble_eq_true rfl) ⟨Nat.le_of_ble_eq_true rfl, Nat.le_of_ble_eq_true rfl⟩ ⟨Nat.le_of_ble_eq_true rfl, Nat.le_of_ble_eq_true rfl⟩ (gAft_r rfl rfl (h' := cDo 0 (dTr D, arrO (keyOf ((upd (dSt D) s (((dSt D) s) + (v - ((dSt D) s)))) 2)) (dG D) ((dSz D) - 1), dSz D, dC D, upd (dSt D) s (((dSt D) s) + (v - ((dSt D) s))), dSh D, dCu D, dLa D, dSw D, dDy D, dDn D, dLt D, dLd D, dSo D)) (st' := []) (pc' := 33) (cs' := 0) (ss' := 0) rfl rfl rfl rfl rfl ?_)
  refine gW_b D_Do_changeSetting 19 1 (pc' := 34) (l' := [(0, .ref 0), (1, .int (nI s)), (2, .int v), (3, .int ((dSt D) s))]) (st' := [.int ((dSt D) s)]) (h' := cDo 0 (dTr D, arrO (keyOf ((upd (dSt D) s (((dSt D) s) + (v - ((dSt D) s)))) 2)) (dG D) ((dSz D) - 1), dSz D, dC D, upd (dSt D) s (((dSt D) s) + (v - ((dSt D) s))), dSh D, dCu D, dLa D, dSw D, dDy D, dDn D, dLt D, dLd D, dSo D)) (P := True) rfl trivial ?_
  exact gW_iret (gdec_at D_Do_changeSetting 20 rfl) rfl rfl (Nat.le_of_ble_eq_true rfl) ⟨rfl, rfl⟩ (Nat.le_of_ble_eq_true rfl) (Nat.le_of_ble_eq_true rfl)
def clb (D : gDom) (p : Nat) : Bool := decide (¬ dG D (p * 5 + 2) ≤ 0) && decide (¬ rdc (dTr D) (tnx (dG D (p * 5 + 1))) 6 ≤ 0)

theorem m_canBeLaid (D : gDom) (p : Nat) (hok : dOK D) (hp : p < dSz D) : gM K_Do_canBeLaid { frames := 2, locals := 46, cells := 0, slots := 0 } [.ref 0, .int (nI p)] (cDo 0 D) (gD (.inl (some (.int (bI (clb D p))))) (cDo 0 D)) := by
  refine gM_of rfl rfl (Nat.le_of_ble_eq_true rfl) (fun sc => ?_)
  obtain ⟨hs, hts⟩ := id hok
  obtain ⟨hT, hT4⟩ := hts p hp
  refine gW_b D_Do_canBeLaid 0 4 (pc' := 6) (l' := [(0, .ref 0), (1, .int (nI p))]) (st' := [.int 2, .int (nI p), .ref 3]) (h' := cDo 0 D) (P := True) rfl trivial ?_
  refine gW_callV (m_valueOf (dG D) (dSz D) (dC D) p 2 (by omega) (by omega) (by omega)) lk_Do_103 [3, 4] (gdec_at D_Do_canBeLaid 4 rfl) (st := []) rfl rfl ⟨rfl, rfl⟩ (Nat.le_of_ble_eq_true rfl) rfl (by decide) rfl (Nat.le_of_ble_eq_true rfl) ⟨Nat.le_of_ble_eq_true rfl, Nat.le_of_ble_eq_true rfl⟩ ⟨Nat.le_of_ble_eq_true rfl, Nat.le_of_ble_eq_true rfl⟩ (gAft_r rfl rfl (h' := cDo 0 D) (st' := [.int ((dG D) (p * 5 + 2))]) (pc' := 9) (cs' := 0) (ss' := 0) rfl rfl rfl rfl rfl ?_)
  refine gW_if_le (gdec_at D_Do_canBeLaid 5 rfl) (tgt := 35) rfl (fun c => ?_) (fun c => ?_)
  · skip
    refine gW_b D_Do_canBeLaid 17 1 (pc' := 36) (l' := [(0, .ref 0), (1, .int (nI p))]) (st' := [.int 0]) (h' := cDo 0 D) (P := True) rfl trivial ?_
    rw [show bI (clb D p) = 0 from by simp [clb, c, bI]]
    exact gW_iret (gdec_at D_Do_canBeLaid 18 rfl) rfl rfl (Nat.le_of_ble_eq_true rfl) ⟨rfl, rfl⟩ (Nat.le_of_ble_eq_true rfl) (Nat.le_of_ble_eq_true rfl)
  · skip
    refine gW_b D_Do_canBeLaid 6 6 (pc' := 22) (l' := [(0, .ref 0), (1, .int (nI p))]) (st' := [.int 1, .int (nI p), .ref 3, .ref 1]) (h' := cDo 0 D) (P := True) rfl trivial ?_
    refine gW_callV (m_valueOf (dG D) (dSz D) (dC D) p 1 (by omega) (by omega) (by omega)) lk_Do_103 [3, 4] (gdec_at D_Do_canBeLaid 12 rfl) (st := [.ref 1]) rfl rfl ⟨rfl, rfl⟩ (Nat.le_of_ble_eq_true rfl) rfl (by decide) rfl (Nat.le_of_ble_eq_true rfl) ⟨Nat.le_of_ble_eq_true rfl, Nat.le_of_ble_eq_true rfl⟩ ⟨Nat.le_of_ble_eq_true rfl, Nat.le_of_ble_eq_true rfl⟩ (gAft_r rfl rfl (h' := cDo 0 D) (st' := [.int ((dG D) (p * 5 + 1)), .ref 1]) (pc' := 25) (cs' := 0) (ss' := 0) rfl rfl rfl rfl rfl ?_)
    rw [show ((dG D) (p * 5 + 1) : Int32) = nI (tnx (dG D (p * 5 + 1))) from hT]
    refine gW_callV (m_readyOf (dTr D) (tnx (dG D (p * 5 + 1))) (by omega)) lk_Do_134 [1, 2] (gdec_at D_Do_canBeLaid 13 rfl) (st := []) rfl rfl ⟨rfl, rfl⟩ (Nat.le_of_ble_eq_true rfl) rfl (by decide) rfl (Nat.le_of_ble_eq_true rfl) ⟨Nat.le_of_ble_eq_true rfl, Nat.le_of_ble_eq_true rfl⟩ ⟨Nat.le_of_ble_eq_true rfl, Nat.le_of_ble_eq_true rfl⟩ (gAft_r rfl rfl (h' := cDo 0 D) (st' := [.int (rdc (dTr D) (tnx (dG D (p * 5 + 1))) 6)]) (pc' := 28) (cs' := 0) (ss' := 0) rfl rfl rfl rfl rfl ?_)
    refine gW_if_le (gdec_at D_Do_canBeLaid 14 rfl) (tgt := 35) rfl (fun d => ?_) (fun d => ?_)
    · skip
      refine gW_b D_Do_canBeLaid 17 1 (pc' := 36) (l' := [(0, .ref 0), (1, .int (nI p))]) (st' := [.int 0]) (h' := cDo 0 D) (P := True) rfl trivial ?_
      rw [show bI (clb D p) = 0 from by simp [clb, c, d, bI]]
      exact gW_iret (gdec_at D_Do_canBeLaid 18 rfl) rfl rfl (Nat.le_of_ble_eq_true rfl) ⟨rfl, rfl⟩ (Nat.le_of_ble_eq_true rfl) (Nat.le_of_ble_eq_true rfl)
    · skip
      refine gW_b D_Do_canBeLaid 15 2 (pc' := 36) (l' := [(0, .ref 0), (1, .int (nI p))]) (st' := [.int 1]) (h' := cDo 0 D) (P := True) rfl trivial ?_
      rw [show bI (clb D p) = 1 from by simp [clb, c, d, bI]]
      exact gW_iret (gdec_at D_Do_canBeLaid 18 rfl) rfl rfl (Nat.le_of_ble_eq_true rfl) ⟨rfl, rfl⟩ (Nat.le_of_ble_eq_true rfl) (Nat.le_of_ble_eq_true rfl)
def layW (D : gDom) (p : Nat) : Int32 := if dSt D 4 < tkn (dSt D 5) (dG D (p * 5 + 2)) then dSt D 4 else tkn (dSt D 5) (dG D (p * 5 + 2))
/-- the trays behind one setter's work on the section at place p, and how many cubes are taken -/
def layX (D : gDom) (p : Nat) : (Nat → Int32) × Int32 := tkR (tnx (dG D (p * 5 + 1))) (layW D p) 6 0 (dTr D) 0
def layB (D : gDom) (p : Nat) : Int32 := if dSt D 5 ≤ 0 then 0 else (layX D p).2 / dSt D 5
def layD0 (D : gDom) (p : Nat) (b : Int32) : gDom := ((layX D p).1, layF (dG D) p ((layX D p).2 - b), dSz D, dC D, dSt D, dSh D, dCu D, upd (dLa D) (tnx (dG D (p * 5 + 1))) (dLa D (tnx (dG D (p * 5 + 1))) + ((layX D p).2 - b)), upd (dSw D) (tnx (dG D (p * 5 + 1))) (dSw D (tnx (dG D (p * 5 + 1))) + b), D.2.2.2.2.2.2.2.2.2)
def layD (D : gDom) (p : Nat) : gDom := layD0 D p (layB D p)

theorem m_layOnce (D : gDom) (p : Nat) (hok : dOK D) (hp : p < dSz D) : gM K_Do_layOnce { frames := 2, locals := 48, cells := 0, slots := 0 } [.ref 0, .int (nI p)] (cDo 0 D) (gD (.inl none) (cDo 0 (layD D p))) := by
  refine gM_of rfl rfl (Nat.le_of_ble_eq_true rfl) (fun sc => ?_)
  obtain ⟨hs, hts⟩ := id hok
  obtain ⟨hT, hT4⟩ := hts p hp
  refine gW_b D_Do_layOnce 0 4 (pc' := 6) (l' := [(0, .ref 0), (1, .int (nI p))]) (st' := [.int 1, .int (nI p), .ref 3]) (h' := cDo 0 D) (P := True) rfl trivial ?_
  refine gW_callV (m_valueOf (dG D) (dSz D) (dC D) p 1 (by omega) (by omega) (by omega)) lk_Do_103 [3, 4] (gdec_at D_Do_layOnce 4 rfl) (st := []) rfl rfl ⟨rfl, rfl⟩ (Nat.le_of_ble_eq_true rfl) rfl (by decide) rfl (Nat.le_of_ble_eq_true rfl) ⟨Nat.le_of_ble_eq_true rfl, Nat.le_of_ble_eq_true rfl⟩ ⟨Nat.le_of_ble_eq_true rfl, Nat.le_of_ble_eq_true rfl⟩ (gAft_r rfl rfl (h' := cDo 0 D) (st' := [.int ((dG D) (p * 5 + 1))]) (pc' := 9) (cs' := 0) (ss' := 0) rfl rfl rfl rfl rfl ?_)
  refine gW_b D_Do_layOnce 5 6 (pc' := 17) (l' := [(0, .ref 0), (1, .int (nI p)), (2, .int ((dG D) (p * 5 + 1)))]) (st' := [.int 2, .int (nI p), .ref 3, .ref 0]) (h' := cDo 0 D) (P := True) rfl trivial ?_
  refine gW_callV (m_valueOf (dG D) (dSz D) (dC D) p 2 (by omega) (by omega) (by omega)) lk_Do_103 [3, 4] (gdec_at D_Do_layOnce 11 rfl) (st := [.ref 0]) rfl rfl ⟨rfl, rfl⟩ (Nat.le_of_ble_eq_true rfl) rfl (by decide) rfl (Nat.le_of_ble_eq_true rfl) ⟨Nat.le_of_ble_eq_true rfl, Nat.le_of_ble_eq_true rfl⟩ ⟨Nat.le_of_ble_eq_true rfl, Nat.le_of_ble_eq_true rfl⟩ (gAft_r rfl rfl (h' := cDo 0 D) (st' := [.int ((dG D) (p * 5 + 2)), .ref 0]) (pc' := 20) (cs' := 0) (ss' := 0) rfl rfl rfl rfl rfl ?_)
  refine gW_callV (m_takenFor D ((dG D) (p * 5 + 2))) lk_Do_137 [0, 1, 2, 3, 4, 5, 6, 7, 8, 9] (gdec_at D_Do_layOnce 12 rfl) (st := []) rfl rfl ⟨rfl, rfl⟩ (Nat.le_of_ble_eq_true rfl) rfl (by decide) rfl (Nat.le_of_ble_eq_true rfl) ⟨Nat.le_of_ble_eq_true rfl, Nat.le_of_ble_eq_true rfl⟩ ⟨Nat.le_of_ble_eq_true rfl, Nat.le_of_ble_eq_true rfl⟩ (gAft_r rfl rfl (h' := cDo 0 D) (st' := [.int (tkn ((dSt D) 5) ((dG D) (p * 5 + 2)))]) (pc' := 23) (cs' := 0) (ss' := 0) rfl rfl rfl rfl rfl ?_)
  refine gW_b D_Do_layOnce 13 4 (pc' := 29) (l' := [(0, .ref 0), (1, .int (nI p)), (2, .int ((dG D) (p * 5 + 1)))]) (st' := [.int ((dSt D) 4), .int (tkn ((dSt D) 5) ((dG D) (p * 5 + 2)))]) (h' := cDo 0 D) (P := vp_in 4 6 ∧ True) rfl ⟨(gvl 4 6 (by omega) (by omega)), trivial⟩ ?_
  refine gW_min (gmem 520 (by decide +kernel)) (gdec_at D_Do_layOnce 17 rfl) (Nat.le_of_ble_eq_true rfl) (Nat.le_of_ble_eq_true rfl) (Nat.le_of_ble_eq_true rfl) (Nat.le_of_ble_eq_true rfl) ?_
  rw [show (if (dSt D) 4 < tkn ((dSt D) 5) ((dG D) (p * 5 + 2)) then (dSt D) 4 else tkn ((dSt D) 5) ((dG D) (p * 5 + 2)) : Int32) = layW D p from rfl]
  refine gW_b D_Do_layOnce 18 5 (pc' := 39) (l' := [(0, .ref 0), (1, .int (nI p)), (2, .int ((dG D) (p * 5 + 1))), (3, .int (layW D p))]) (st' := [.int (layW D p), .int ((dG D) (p * 5 + 1)), .ref 1]) (h' := cDo 0 D) (P := True) rfl trivial ?_
  rw [show ((dG D) (p * 5 + 1) : Int32) = nI (tnx (dG D (p * 5 + 1))) from hT]
  refine gW_callV (m_takeReady (dTr D) (tnx (dG D (p * 5 + 1))) (layW D p) (by omega)) lk_Do_140 [1, 2] (gdec_at D_Do_layOnce 23 rfl) (st := []) rfl rfl ⟨rfl, rfl⟩ (Nat.le_of_ble_eq_true rfl) rfl (by decide) rfl (Nat.le_of_ble_eq_true rfl) ⟨Nat.le_of_ble_eq_true rfl, Nat.le_of_ble_eq_true rfl⟩ ⟨Nat.le_of_ble_eq_true rfl, Nat.le_of_ble_eq_true rfl⟩ (gAft_r rfl rfl (h' := cDo 0 ((layX D p).1, dG D, dSz D, dC D, dSt D, dSh D, dCu D, dLa D, dSw D, dDy D, dDn D, dLt D, dLd D, dSo D)) (st' := [.int ((layX D p).2)]) (pc' := 42) (cs' := 0) (ss' := 0) rfl rfl rfl rfl rfl ?_)
  refine gW_b D_Do_layOnce 24 5 (pc' := 50) (l' := [(0, .ref 0), (1, .int (nI p)), (2, .int (nI (tnx (dG D (p * 5 + 1))))), (3, .int (layW D p)), (4, .int ((layX D p).2))]) (st' := [.int ((dSt D) 5)]) (h' := cDo 0 ((layX D p).1, dG D, dSz D, dC D, dSt D, dSh D, dCu D, dLa D, dSw D, dDy D, dDn D, dLt D, dLd D, dSo D)) (P := vp_in 5 6 ∧ True) rfl ⟨(gvl 5 6 (by omega) (by omega)), trivial⟩ ?_
  refine gW_if_le (gdec_at D_Do_layOnce 29 rfl) (tgt := 65) rfl (fun d => ?_) (fun d => ?_)
  · skip
    have hz : layB D p = 0 := if_pos d
    refine gW_b D_Do_layOnce 37 8 (pc' := 78) (l' := [(0, .ref 0), (1, .int (nI p)), (2, .int (nI (tnx (dG D (p * 5 + 1))))), (3, .int (layW D p)), (4, .int ((layX D p).2)), (5, .int 0)]) (st' := [.int (((layX D p).2) - 0), .int (nI p), .ref 3]) (h' := cDo 0 ((layX D p).1, dG D, dSz D, dC D, dSt D, dSh D, dCu D, dLa D, dSw D, dDy D, dDn D, dLt D, dLd D, dSo D)) (P := True) rfl trivial ?_
    refine gW_callV (m_lay (dG D) (dSz D) (dC D) p (((layX D p).2) - 0) (by omega) (by omega)) lk_Do_143 [3, 4] (gdec_at D_Do_layOnce 45 rfl) (st := []) rfl rfl ⟨rfl, rfl⟩ (Nat.le_of_ble_eq_true rfl) rfl (by decide) rfl (Nat.le_of_ble_eq_true rfl) ⟨Nat.le_of_ble_eq_true rfl, Nat.le_of_ble_eq_true rfl⟩ ⟨Nat.le_of_ble_eq_true rfl, Nat.le_of_ble_eq_true rfl⟩ (gAft_r rfl rfl (h' := cDo 0 ((layX D p).1, layF (dG D) p (((layX D p).2) - 0), dSz D, dC D, dSt D, dSh D, dCu D, dLa D, dSw D, dDy D, dDn D, dLt D, dLd D, dSo D)) (st' := []) (pc' := 81) (cs' := 0) (ss' := 0) rfl rfl rfl rfl rfl ?_)
    refine gW_b D_Do_layOnce 46 6 (pc' := 91) (l' := [(0, .ref 0), (1, .int (nI p)), (2, .int (nI (tnx (dG D (p * 5 + 1))))), (3, .int (layW D p)), (4, .int ((layX D p).2)), (5, .int 0)]) (st' := [.int (((layX D p).2) - 0), .int (nI (tnx (dG D (p * 5 + 1)))), .ref 8]) (h' := cDo 0 ((layX D p).1, layF (dG D) p (((layX D p).2) - 0), dSz D, dC D, dSt D, dSh D, dCu D, dLa D, dSw D, dDy D, dDn D, dLt D, dLd D, dSo D)) (P := True) rfl trivial ?_
    refine gW_callS (m_addAt 4 (tnx (dG D (p * 5 + 1))) (dLa D) (((layX D p).2) - 0) (by omega) (by omega)) lk_Do_84 [8] (gdec_at D_Do_layOnce 52 rfl) (st := []) rfl rfl ⟨rfl, rfl⟩ (Nat.le_of_ble_eq_true rfl) (Nat.le_of_ble_eq_true rfl) ⟨Nat.le_of_ble_eq_true rfl, Nat.le_of_ble_eq_true rfl⟩ ⟨Nat.le_of_ble_eq_true rfl, Nat.le_of_ble_eq_true rfl⟩ (gAft_r rfl rfl (h' := cDo 0 ((layX D p).1, layF (dG D) p (((layX D p).2) - 0), dSz D, dC D, dSt D, dSh D, dCu D, upd (dLa D) (tnx (dG D (p * 5 + 1))) (((dLa D) (tnx (dG D (p * 5 + 1)))) + (((layX D p).2) - 0)), dSw D, dDy D, dDn D, dLt D, dLd D, dSo D)) (st' := []) (pc' := 94) (cs' := 0) (ss' := 0) rfl rfl rfl rfl rfl ?_)
    refine gW_b D_Do_layOnce 53 4 (pc' := 101) (l' := [(0, .ref 0), (1, .int (nI p)), (2, .int (nI (tnx (dG D (p * 5 + 1))))), (3, .int (layW D p)), (4, .int ((layX D p).2)), (5, .int 0)]) (st' := [.int 0, .int (nI (tnx (dG D (p * 5 + 1)))), .ref 9]) (h' := cDo 0 ((layX D p).1, layF (dG D) p (((layX D p).2) - 0), dSz D, dC D, dSt D, dSh D, dCu D, upd (dLa D) (tnx (dG D (p * 5 + 1))) (((dLa D) (tnx (dG D (p * 5 + 1)))) + (((layX D p).2) - 0)), dSw D, dDy D, dDn D, dLt D, dLd D, dSo D)) (P := True) rfl trivial ?_
    refine gW_callS (m_addAt 4 (tnx (dG D (p * 5 + 1))) (dSw D) 0 (by omega) (by omega)) lk_Do_84 [9] (gdec_at D_Do_layOnce 57 rfl) (st := []) rfl rfl ⟨rfl, rfl⟩ (Nat.le_of_ble_eq_true rfl) (Nat.le_of_ble_eq_true rfl) ⟨Nat.le_of_ble_eq_true rfl, Nat.le_of_ble_eq_true rfl⟩ ⟨Nat.le_of_ble_eq_true rfl, Nat.le_of_ble_eq_true rfl⟩ (gAft_r rfl rfl (h' := cDo 0 ((layX D p).1, layF (dG D) p (((layX D p).2) - 0), dSz D, dC D, dSt D, dSh D, dCu D, upd (dLa D) (tnx (dG D (p * 5 + 1))) (((dLa D) (tnx (dG D (p * 5 + 1)))) + (((layX D p).2) - 0)), upd (dSw D) (tnx (dG D (p * 5 + 1))) (((dSw D) (tnx (dG D (p * 5 + 1)))) + 0), dDy D, dDn D, dLt D, dLd D, dSo D)) (st' := []) (pc' := 104) (cs' := 0) (ss' := 0) rfl rfl rfl rfl rfl ?_)
    exact gW_vret (gdec_at D_Do_layOnce 58 rfl) rfl (Nat.le_of_ble_eq_true rfl) ⟨rfl, by rw [show layD D p = layD0 D p 0 from congrArg (layD0 D p) hz]; rfl⟩ (Nat.le_of_ble_eq_true rfl) (Nat.le_of_ble_eq_true rfl)
  · skip
    have hd := gdiv0 d
    have hz : layB D p = (layX D p).2 / dSt D 5 := if_neg d
    refine gW_b D_Do_layOnce 30 7 (pc' := 66) (l' := [(0, .ref 0), (1, .int (nI p)), (2, .int (nI (tnx (dG D (p * 5 + 1))))), (3, .int (layW D p)), (4, .int ((layX D p).2))]) (st' := [.int (((layX D p).2) / ((dSt D) 5))]) (h' := cDo 0 ((layX D p).1, dG D, dSz D, dC D, dSt D, dSh D, dCu D, dLa D, dSw D, dDy D, dDn D, dLt D, dLd D, dSo D)) (P := vp_in 5 6 ∧ ¬ ((dSt D) 5) = 0 ∧ True) rfl ⟨(gvl 5 6 (by omega) (by omega)), (by assumption), trivial⟩ ?_
    refine gW_b D_Do_layOnce 38 7 (pc' := 78) (l' := [(0, .ref 0), (1, .int (nI p)), (2, .int (nI (tnx (dG D (p * 5 + 1))))), (3, .int (layW D p)), (4, .int ((layX D p).2)), (5, .int (((layX D p).2) / ((dSt D) 5)))]) (st' := [.int (((layX D p).2) - (((layX D p).2) / ((dSt D) 5))), .int (nI p), .ref 3]) (h' := cDo 0 ((layX D p).1, dG D, dSz D, dC D, dSt D, dSh D, dCu D, dLa D, dSw D, dDy D, dDn D, dLt D, dLd D, dSo D)) (P := True) rfl trivial ?_
    refine gW_callV (m_lay (dG D) (dSz D) (dC D) p (((layX D p).2) - (((layX D p).2) / ((dSt D) 5))) (by omega) (by omega)) lk_Do_143 [3, 4] (gdec_at D_Do_layOnce 45 rfl) (st := []) rfl rfl ⟨rfl, rfl⟩ (Nat.le_of_ble_eq_true rfl) rfl (by decide) rfl (Nat.le_of_ble_eq_true rfl) ⟨Nat.le_of_ble_eq_true rfl, Nat.le_of_ble_eq_true rfl⟩ ⟨Nat.le_of_ble_eq_true rfl, Nat.le_of_ble_eq_true rfl⟩ (gAft_r rfl rfl (h' := cDo 0 ((layX D p).1, layF (dG D) p (((layX D p).2) - (((layX D p).2) / ((dSt D) 5))), dSz D, dC D, dSt D, dSh D, dCu D, dLa D, dSw D, dDy D, dDn D, dLt D, dLd D, dSo D)) (st' := []) (pc' := 81) (cs' := 0) (ss' := 0) rfl rfl rfl rfl rfl ?_)
    refine gW_b D_Do_layOnce 46 6 (pc' := 91) (l' := [(0, .ref 0), (1, .int (nI p)), (2, .int (nI (tnx (dG D (p * 5 + 1))))), (3, .int (layW D p)), (4, .int ((layX D p).2)), (5, .int (((layX D p).2) / ((dSt D) 5)))]) (st' := [.int (((layX D p).2) - (((layX D p).2) / ((dSt D) 5))), .int (nI (tnx (dG D (p * 5 + 1)))), .ref 8]) (h' := cDo 0 ((layX D p).1, layF (dG D) p (((layX D p).2) - (((layX D p).2) / ((dSt D) 5))), dSz D, dC D, dSt D, dSh D, dCu D, dLa D, dSw D, dDy D, dDn D, dLt D, dLd D, dSo D)) (P := True) rfl trivial ?_
    refine gW_callS (m_addAt 4 (tnx (dG D (p * 5 + 1))) (dLa D) (((layX D p).2) - (((layX D p).2) / ((dSt D) 5))) (by omega) (by omega)) lk_Do_84 [8] (gdec_at D_Do_layOnce 52 rfl) (st := []) rfl rfl ⟨rfl, rfl⟩ (Nat.le_of_ble_eq_true rfl) (Nat.le_of_ble_eq_true rfl) ⟨Nat.le_of_ble_eq_true rfl, Nat.le_of_ble_eq_true rfl⟩ ⟨Nat.le_of_ble_eq_true rfl, Nat.le_of_ble_eq_true rfl⟩ (gAft_r rfl rfl (h' := cDo 0 ((layX D p).1, layF (dG D) p (((layX D p).2) - (((layX D p).2) / ((dSt D) 5))), dSz D, dC D, dSt D, dSh D, dCu D, upd (dLa D) (tnx (dG D (p * 5 + 1))) (((dLa D) (tnx (dG D (p * 5 + 1)))) + (((layX D p).2) - (((layX D p).2) / ((dSt D) 5)))), dSw D, dDy D, dDn D, dLt D, dLd D, dSo D)) (st' := []) (pc' := 94) (cs' := 0) (ss' := 0) rfl rfl rfl rfl rfl ?_)
    refine gW_b D_Do_layOnce 53 4 (pc' := 101) (l' := [(0, .ref 0), (1, .int (nI p)), (2, .int (nI (tnx (dG D (p * 5 + 1))))), (3, .int (layW D p)), (4, .int ((layX D p).2)), (5, .int (((layX D p).2) / ((dSt D) 5)))]) (st' := [.int (((layX D p).2) / ((dSt D) 5)), .int (nI (tnx (dG D (p * 5 + 1)))), .ref 9]) (h' := cDo 0 ((layX D p).1, layF (dG D) p (((layX D p).2) - (((layX D p).2) / ((dSt D) 5))), dSz D, dC D, dSt D, dSh D, dCu D, upd (dLa D) (tnx (dG D (p * 5 + 1))) (((dLa D) (tnx (dG D (p * 5 + 1)))) + (((layX D p).2) - (((layX D p).2) / ((dSt D) 5)))), dSw D, dDy D, dDn D, dLt D, dLd D, dSo D)) (P := True) rfl trivial ?_
    refine gW_callS (m_addAt 4 (tnx (dG D (p * 5 + 1))) (dSw D) (((layX D p).2) / ((dSt D) 5)) (by omega) (by omega)) lk_Do_84 [9] (gdec_at D_Do_layOnce 57 rfl) (st := []) rfl rfl ⟨rfl, rfl⟩ (Nat.le_of_ble_eq_true rfl) (Nat.le_of_ble_eq_true rfl) ⟨Nat.le_of_ble_eq_true rfl, Nat.le_of_ble_eq_true rfl⟩ ⟨Nat.le_of_ble_eq_true rfl, Nat.le_of_ble_eq_true rfl⟩ (gAft_r rfl rfl (h' := cDo 0 ((layX D p).1, layF (dG D) p (((layX D p).2) - (((layX D p).2) / ((dSt D) 5))), dSz D, dC D, dSt D, dSh D, dCu D, upd (dLa D) (tnx (dG D (p * 5 + 1))) (((dLa D) (tnx (dG D (p * 5 + 1)))) + (((layX D p).2) - (((layX D p).2) / ((dSt D) 5)))), upd (dSw D) (tnx (dG D (p * 5 + 1))) (((dSw D) (tnx (dG D (p * 5 + 1)))) + (((layX D p).2) / ((dSt D) 5))), dDy D, dDn D, dLt D, dLd D, dSo D)) (st' := []) (pc' := 104) (cs' := 0) (ss' := 0) rfl rfl rfl rfl rfl ?_)
    exact gW_vret (gdec_at D_Do_layOnce 58 rfl) rfl (Nat.le_of_ble_eq_true rfl) ⟨rfl, by rw [show layD D p = layD0 D p ((layX D p).2 / dSt D 5) from congrArg (layD0 D p) hz]; rfl⟩ (Nat.le_of_ble_eq_true rfl) (Nat.le_of_ble_eq_true rfl)
def cdD (D : gDom) (v : Int32) : gDom := if v ≤ 0 then (dTr D, dG D, dSz D, dC D, dSt D, dSh D, dCu D, dLa D, dSw D, dDy D, dDn D + 1, dLt D, dLd D, dSo D) else (dTr D, dG D, dSz D, dC D, dSt D, dSh D, dCu D, dLa D, dSw D, dDy D, dDn D + 1, dLt D + 1, dLd D + v, dSo D)

theorem m_countDone (D : gDom) (v : Int32) : gM K_Do_countDone { frames := 0, locals := 0, cells := 0, slots := 0 } [.ref 0, .int v] (cDo 0 D) (gD (.inl none) (cDo 0 (cdD D v))) := by
  refine gM_of rfl rfl (Nat.le_of_ble_eq_true rfl) (fun sc => ?_)
  refine gW_b D_Do_countDone 0 7 (pc' := 11) (l' := [(0, .ref 0), (1, .int v)]) (st' := [.int v]) (h' := cDo 0 (dTr D, dG D, dSz D, dC D, dSt D, dSh D, dCu D, dLa D, dSw D, dDy D, (dDn D) + 1, dLt D, dLd D, dSo D)) (P := True) rfl trivial ?_
  refine gW_if_le (gdec_at D_Do_countDone 7 rfl) (tgt := 34) rfl (fun d => ?_) (fun d => ?_)
  · skip
    exact gW_vret (gdec_at D_Do_countDone 20 rfl) rfl (Nat.le_of_ble_eq_true rfl) ⟨rfl, by rw [show cdD D v = _ from if_pos d]⟩ (Nat.le_of_ble_eq_true rfl) (Nat.le_of_ble_eq_true rfl)
  · skip
    refine gW_b D_Do_countDone 8 12 (pc' := 34) (l' := [(0, .ref 0), (1, .int v)]) (st' := []) (h' := cDo 0 (dTr D, dG D, dSz D, dC D, dSt D, dSh D, dCu D, dLa D, dSw D, dDy D, (dDn D) + 1, (dLt D) + 1, (dLd D) + v, dSo D)) (P := True) rfl trivial ?_
    exact gW_vret (gdec_at D_Do_countDone 20 rfl) rfl (Nat.le_of_ble_eq_true rfl) ⟨rfl, by rw [show cdD D v = _ from if_neg d]⟩ (Nat.le_of_ble_eq_true rfl) (Nat.le_of_ble_eq_true rfl)
theorem cdD_1 (D : gDom) (v : Int32) : dG (cdD D v) = dG D ∧ dSz (cdD D v) = dSz D := by
  unfold cdD
  split <;> exact ⟨rfl, rfl⟩
def rmD (D : gDom) (p : Nat) : gDom := (dTr D, rmO (dG D) p (dSz D - 1 - p), dSz D - 1, D.2.2.2)
def dsS (D : gDom) (p : Nat) : gDom := if dG D (p * 5 + 2) = 0 then rmD (cdD D (dDy D - dG D (p * 5 + 3))) p else D
/-- the sections at places below p: those that want no more go -/
def dsR : Nat → gDom → gDom
  | 0, D => D
  | p + 1, D => dsR p (dsS D p)
def pm1 (p : Nat) : Int32 := nI p + (-1)
theorem pm1_s (p : Nat) : pm1 (p + 1) = nI p := pk_m1 p
theorem pm1_sub (p : Nat) : nI p - 1 = pm1 p := by
  unfold pm1
  rw [Int32.sub_eq_add_neg]
theorem l_dismissDone {sc : Nat × (Nat → Int32)} {n0 : Nat} {E : gO → gH → Prop} : ∀ (p : Nat) (D : gDom), p ≤ dSz D → dSz D ≤ 10 → (∀ v, gW K_Do_dismissDone sc { frames := 2, locals := 46, cells := 0, slots := 0 } n0 E 0 0 58 [(0, .ref 0), (1, .int v)] [] (cDo 0 (dsR p D))) → gW K_Do_dismissDone sc { frames := 2, locals := 46, cells := 0, slots := 0 } n0 E 0 0 10 [(0, .ref 0), (1, .int (pm1 p))] [] (cDo 0 D) := by
  intro p
  induction p with
  | zero =>
    intro D hp hs kk
    rw [show pm1 0 = (-1) from by decide]
    refine gW_b D_Do_dismissDone 6 1 (pc' := 11) (l' := [(0, .ref 0), (1, .int (-1))]) (st' := [.int (-1)]) (h' := cDo 0 D) (P := True) rfl trivial ?_
    refine gW_if_lt (gdec_at D_Do_dismissDone 7 rfl) (tgt := 58) rfl (fun _ => ?_) (fun c => absurd (by decide) c)
    exact kk _
  | succ p ih =>
    intro D hp hs kk
    rw [pm1_s p]
    refine gW_b D_Do_dismissDone 6 1 (pc' := 11) (l' := [(0, .ref 0), (1, .int (nI p))]) (st' := [.int (nI p)]) (h' := cDo 0 D) (P := True) rfl trivial ?_
    refine gW_if_lt (gdec_at D_Do_dismissDone 7 rfl) (tgt := 58) rfl (fun c => absurd c (nI_pos (n := p) (by omega))) (fun _ => ?_)
    refine gW_b D_Do_dismissDone 8 4 (pc' := 20) (l' := [(0, .ref 0), (1, .int (nI p))]) (st' := [.int 2, .int (nI p), .ref 3]) (h' := cDo 0 D) (P := True) rfl trivial ?_
    refine gW_callV (m_valueOf (dG D) (dSz D) (dC D) p 2 (by omega) (by omega) (by omega)) lk_Do_103 [3, 4] (gdec_at D_Do_dismissDone 12 rfl) (st := []) rfl rfl ⟨rfl, rfl⟩ (Nat.le_of_ble_eq_true rfl) rfl (by decide) rfl (Nat.le_of_ble_eq_true rfl) ⟨Nat.le_of_ble_eq_true rfl, Nat.le_of_ble_eq_true rfl⟩ ⟨Nat.le_of_ble_eq_true rfl, Nat.le_of_ble_eq_true rfl⟩ (gAft_r rfl rfl (h' := cDo 0 D) (st' := [.int ((dG D) (p * 5 + 2))]) (pc' := 23) (cs' := 0) (ss' := 0) rfl rfl rfl rfl rfl ?_)
    refine gW_if_ne (gdec_at D_Do_dismissDone 13 rfl) (tgt := 52) rfl (fun d => ?_) (fun d => ?_)
    · skip
      refine gW_b D_Do_dismissDone 28 2 (pc' := 10) (l' := [(0, .ref 0), (1, .int ((nI p) + (-1)))]) (st' := []) (h' := cDo 0 D) (P := True) rfl trivial ?_
      rw [show dsR (p + 1) D = dsR p D from congrArg (dsR p) (if_neg d)] at kk
      exact ih D (by omega) hs kk
    · skip
      refine gW_b D_Do_dismissDone 14 7 (pc' := 37) (l' := [(0, .ref 0), (1, .int (nI p))]) (st' := [.int 3, .int (nI p), .ref 3, .int (dDy D), .ref 0]) (h' := cDo 0 D) (P := True) rfl trivial ?_
      refine gW_callV (m_valueOf (dG D) (dSz D) (dC D) p 3 (by omega) (by omega) (by omega)) lk_Do_103 [3, 4] (gdec_at D_Do_dismissDone 21 rfl) (st := [.int (dDy D), .ref 0]) rfl rfl ⟨rfl, rfl⟩ (Nat.le_of_ble_eq_true rfl) rfl (by decide) rfl (Nat.le_of_ble_eq_true rfl) ⟨Nat.le_of_ble_eq_true rfl, Nat.le_of_ble_eq_true rfl⟩ ⟨Nat.le_of_ble_eq_true rfl, Nat.le_of_ble_eq_true rfl⟩ (gAft_r rfl rfl (h' := cDo 0 D) (st' := [.int ((dG D) (p * 5 + 3)), .int (dDy D), .ref 0]) (pc' := 40) (cs' := 0) (ss' := 0) rfl rfl rfl rfl rfl ?_)
      refine gW_b D_Do_dismissDone 22 1 (pc' := 41) (l' := [(0, .ref 0), (1, .int (nI p))]) (st' := [.int ((dDy D) - ((dG D) (p * 5 + 3))), .ref 0]) (h' := cDo 0 D) (P := True) rfl trivial ?_
      refine gW_callV (m_countDone D ((dDy D) - ((dG D) (p * 5 + 3)))) lk_Do_146 [0, 1, 2, 3, 4, 5, 6, 7, 8, 9] (gdec_at D_Do_dismissDone 23 rfl) (st := []) rfl rfl ⟨rfl, rfl⟩ (Nat.le_of_ble_eq_true rfl) rfl (by decide) rfl (Nat.le_of_ble_eq_true rfl) ⟨Nat.le_of_ble_eq_true rfl, Nat.le_of_ble_eq_true rfl⟩ ⟨Nat.le_of_ble_eq_true rfl, Nat.le_of_ble_eq_true rfl⟩ (gAft_r rfl rfl (h' := cDo 0 (cdD D ((dDy D) - ((dG D) (p * 5 + 3))))) (st' := []) (pc' := 44) (cs' := 0) (ss' := 0) rfl rfl rfl rfl rfl ?_)
      have h1 := (cdD_1 D (dDy D - dG D (p * 5 + 3))).2
      refine gW_b D_Do_dismissDone 24 3 (pc' := 49) (l' := [(0, .ref 0), (1, .int (nI p))]) (st' := [.int (nI p), .ref 3]) (h' := cDo 0 (cdD D ((dDy D) - ((dG D) (p * 5 + 3))))) (P := True) rfl trivial ?_
      refine gW_callV (m_remove (dG (cdD D ((dDy D) - ((dG D) (p * 5 + 3))))) (dSz (cdD D ((dDy D) - ((dG D) (p * 5 + 3))))) (dC (cdD D ((dDy D) - ((dG D) (p * 5 + 3))))) p (by omega) (by omega)) lk_Do_106 [3, 4] (gdec_at D_Do_dismissDone 27 rfl) (st := []) rfl rfl ⟨rfl, rfl⟩ (Nat.le_of_ble_eq_true rfl) rfl (by decide) rfl (Nat.le_of_ble_eq_true rfl) ⟨Nat.le_of_ble_eq_true rfl, Nat.le_of_ble_eq_true rfl⟩ ⟨Nat.le_of_ble_eq_true rfl, Nat.le_of_ble_eq_true rfl⟩ (gAft_r rfl rfl (h' := cDo 0 (dTr (cdD D ((dDy D) - ((dG D) (p * 5 + 3)))), rmO (dG (cdD D ((dDy D) - ((dG D) (p * 5 + 3))))) p ((dSz (cdD D ((dDy D) - ((dG D) (p * 5 + 3))))) - 1 - p), (dSz (cdD D ((dDy D) - ((dG D) (p * 5 + 3))))) - 1, dC (cdD D ((dDy D) - ((dG D) (p * 5 + 3)))), dSt (cdD D ((dDy D) - ((dG D) (p * 5 + 3)))), dSh (cdD D ((dDy D) - ((dG D) (p * 5 + 3)))), dCu (cdD D ((dDy D) - ((dG D) (p * 5 + 3)))), dLa (cdD D ((dDy D) - ((dG D) (p * 5 + 3)))), dSw (cdD D ((dDy D) - ((dG D) (p * 5 + 3)))), dDy (cdD D ((dDy D) - ((dG D) (p * 5 + 3)))), dDn (cdD D ((dDy D) - ((dG D) (p * 5 + 3)))), dLt (cdD D ((dDy D) - ((dG D) (p * 5 + 3)))), dLd (cdD D ((dDy D) - ((dG D) (p * 5 + 3)))), dSo (cdD D ((dDy D) - ((dG D) (p * 5 + 3)))))) (st' := []) (pc' := 52) (cs' := 0) (ss' := 0) rfl rfl rfl rfl rfl ?_)
      refine gW_b D_Do_dismissDone 28 2 (pc' := 10) (l' := [(0, .ref 0), (1, .int ((nI p) + (-1)))]) (st' := []) (h' := cDo 0 (dTr (cdD D ((dDy D) - ((dG D) (p * 5 + 3)))), rmO (dG (cdD D ((dDy D) - ((dG D) (p * 5 + 3))))) p ((dSz (cdD D ((dDy D) - ((dG D) (p * 5 + 3))))) - 1 - p), (dSz (cdD D ((dDy D) - ((dG D) (p * 5 + 3))))) - 1, dC (cdD D ((dDy D) - ((dG D) (p * 5 + 3)))), dSt (cdD D ((dDy D) - ((dG D) (p * 5 + 3)))), dSh (cdD D ((dDy D) - ((dG D) (p * 5 + 3)))), dCu (cdD D ((dDy D) - ((dG D) (p * 5 + 3)))), dLa (cdD D ((dDy D) - ((dG D) (p * 5 + 3)))), dSw (cdD D ((dDy D) - ((dG D) (p * 5 + 3)))), dDy (cdD D ((dDy D) - ((dG D) (p * 5 + 3)))), dDn (cdD D ((dDy D) - ((dG D) (p * 5 + 3)))), dLt (cdD D ((dDy D) - ((dG D) (p * 5 + 3)))), dLd (cdD D ((dDy D) - ((dG D) (p * 5 + 3)))), dSo (cdD D ((dDy D) - ((dG D) (p * 5 + 3)))))) (P := True) rfl trivial ?_
      rw [show dsR (p + 1) D = dsR p (rmD (cdD D (dDy D - dG D (p * 5 + 3))) p) from congrArg (dsR p) (if_pos d)] at kk
      exact ih (rmD (cdD D (dDy D - dG D (p * 5 + 3))) p) (by show p ≤ dSz (cdD D (dDy D - dG D (p * 5 + 3))) - 1; omega) (by show dSz (cdD D (dDy D - dG D (p * 5 + 3))) - 1 ≤ 10; omega) kk
theorem m_dismissDone (D : gDom) (hs : dSz D ≤ 10) : gM K_Do_dismissDone { frames := 2, locals := 46, cells := 0, slots := 0 } [.ref 0] (cDo 0 D) (gD (.inl none) (cDo 0 (dsR (dSz D) D))) := by
  refine gM_of rfl rfl (Nat.le_of_ble_eq_true rfl) (fun sc => ?_)
  refine gW_b D_Do_dismissDone 0 6 (pc' := 10) (l' := [(0, .ref 0), (1, .int ((nI (dSz D)) - 1))]) (st' := []) (h' := cDo 0 D) (P := True) rfl trivial ?_
  rw [pm1_sub]
  refine l_dismissDone (dSz D) D (Nat.le_refl _) hs (fun v => ?_)
  exact gW_vret (gdec_at D_Do_dismissDone 30 rfl) rfl (Nat.le_of_ble_eq_true rfl) ⟨rfl, rfl⟩ (Nat.le_of_ble_eq_true rfl) (Nat.le_of_ble_eq_true rfl)
def msR (D : gDom) (t : Nat) : Nat → Int32
  | 0 => -(dSh D t) * dSt D 0 - hO (dTr D) t
  | i + 1 => if dG D (i * 5 + 1) = nI t then msR D t i + tkn (dSt D 5) (dG D (i * 5 + 2)) else msR D t i
def msI (D : gDom) (t : Nat) : Int32 := if msR D t (dSz D) < 1 then 0 else if dSt D 0 < 1 then 0 else (msR D t (dSz D) + dSt D 0 - 1) / dSt D 0
theorem l_missingSheets (D : gDom) (t : Nat) (ht : t < 4) (hs : dSz D ≤ 10) {sc : Nat × (Nat → Int32)} {n0 : Nat} {E : gO → gH → Prop} (kk : gW K_Do_missingSheets sc { frames := 2, locals := 46, cells := 0, slots := 0 } n0 E 0 0 80 [(0, .ref 0), (1, .int (nI t)), (2, .int ((dSt D) 0)), (3, .int (msR D t (dSz D))), (4, .int (nI (dSz D)))] [] (cDo 0 D)) : ∀ (n i : Nat), i + n = dSz D → gW K_Do_missingSheets sc { frames := 2, locals := 46, cells := 0, slots := 0 } n0 E 0 0 31 [(0, .ref 0), (1, .int (nI t)), (2, .int ((dSt D) 0)), (3, .int (msR D t i)), (4, .int (nI i))] [] (cDo 0 D) := by
  intro n
  induction n with
  | zero =>
    intro i hi
    obtain rfl : dSz D = i := by omega
    refine gW_b D_Do_missingSheets 20 4 (pc' := 40) (l' := [(0, .ref 0), (1, .int (nI t)), (2, .int ((dSt D) 0)), (3, .int (msR D t (dSz D))), (4, .int (nI (dSz D)))]) (st' := [.int (nI (dSz D)), .int (nI (dSz D))]) (h' := cDo 0 D) (P := True) rfl trivial ?_
    refine gW_ic_ge (gdec_at D_Do_missingSheets 24 rfl) (tgt := 80) rfl (fun _ => ?_) (fun c => absurd ((gle (rfl : nI (dSz D) = nI (dSz D)) (rfl : nI (dSz D) = nI (dSz D)) (by omega) (by omega)).mpr (by omega)) c)
    exact kk
  | succ n ih =>
    intro i hi
    refine gW_b D_Do_missingSheets 20 4 (pc' := 40) (l' := [(0, .ref 0), (1, .int (nI t)), (2, .int ((dSt D) 0)), (3, .int (msR D t i)), (4, .int (nI i))]) (st' := [.int (nI (dSz D)), .int (nI i)]) (h' := cDo 0 D) (P := True) rfl trivial ?_
    refine gW_ic_ge (gdec_at D_Do_missingSheets 24 rfl) (tgt := 80) rfl (fun c => absurd c (mt (gle (rfl : nI (dSz D) = nI (dSz D)) (rfl : nI i = nI i) (by omega) (by omega)).mp (by omega))) (fun _ => ?_)
    refine gW_b D_Do_missingSheets 25 4 (pc' := 50) (l' := [(0, .ref 0), (1, .int (nI t)), (2, .int ((dSt D) 0)), (3, .int (msR D t i)), (4, .int (nI i))]) (st' := [.int 1, .int (nI i), .ref 3]) (h' := cDo 0 D) (P := True) rfl trivial ?_
    refine gW_callV (m_valueOf (dG D) (dSz D) (dC D) i 1 (by omega) (by omega) (by omega)) lk_Do_103 [3, 4] (gdec_at D_Do_missingSheets 29 rfl) (st := []) rfl rfl ⟨rfl, rfl⟩ (Nat.le_of_ble_eq_true rfl) rfl (by decide) rfl (Nat.le_of_ble_eq_true rfl) ⟨Nat.le_of_ble_eq_true rfl, Nat.le_of_ble_eq_true rfl⟩ ⟨Nat.le_of_ble_eq_true rfl, Nat.le_of_ble_eq_true rfl⟩ (gAft_r rfl rfl (h' := cDo 0 D) (st' := [.int ((dG D) (i * 5 + 1))]) (pc' := 53) (cs' := 0) (ss' := 0) rfl rfl rfl rfl rfl ?_)
    refine gW_b D_Do_missingSheets 30 1 (pc' := 54) (l' := [(0, .ref 0), (1, .int (nI t)), (2, .int ((dSt D) 0)), (3, .int (msR D t i)), (4, .int (nI i))]) (st' := [.int (nI t), .int ((dG D) (i * 5 + 1))]) (h' := cDo 0 D) (P := True) rfl trivial ?_
    refine gW_ic_ne (gdec_at D_Do_missingSheets 31 rfl) (tgt := 74) rfl (fun d => ?_) (fun d => ?_)
    · skip
      refine gW_b D_Do_missingSheets 42 2 (pc' := 31) (l' := [(0, .ref 0), (1, .int (nI t)), (2, .int ((dSt D) 0)), (3, .int (msR D t i)), (4, .int ((nI i) + 1))]) (st' := []) (h' := cDo 0 D) (P := True) rfl trivial ?_
      rw [show ((nI i) + 1 : Int32) = nI (i + 1) from (gadd (rfl : nI i = nI i) (gk 1))]
      rw [show msR D t i = msR D t (i + 1) from (if_neg d).symm]
      exact ih (i + 1) (by omega)
    · skip
      refine gW_b D_Do_missingSheets 32 6 (pc' := 66) (l' := [(0, .ref 0), (1, .int (nI t)), (2, .int ((dSt D) 0)), (3, .int (msR D t i)), (4, .int (nI i))]) (st' := [.int 2, .int (nI i), .ref 3, .ref 0, .int (msR D t i)]) (h' := cDo 0 D) (P := True) rfl trivial ?_
      refine gW_callV (m_valueOf (dG D) (dSz D) (dC D) i 2 (by omega) (by omega) (by omega)) lk_Do_103 [3, 4] (gdec_at D_Do_missingSheets 38 rfl) (st := [.ref 0, .int (msR D t i)]) rfl rfl ⟨rfl, rfl⟩ (Nat.le_of_ble_eq_true rfl) rfl (by decide) rfl (Nat.le_of_ble_eq_true rfl) ⟨Nat.le_of_ble_eq_true rfl, Nat.le_of_ble_eq_true rfl⟩ ⟨Nat.le_of_ble_eq_true rfl, Nat.le_of_ble_eq_true rfl⟩ (gAft_r rfl rfl (h' := cDo 0 D) (st' := [.int ((dG D) (i * 5 + 2)), .ref 0, .int (msR D t i)]) (pc' := 69) (cs' := 0) (ss' := 0) rfl rfl rfl rfl rfl ?_)
      refine gW_callV (m_takenFor D ((dG D) (i * 5 + 2))) lk_Do_137 [0, 1, 2, 3, 4, 5, 6, 7, 8, 9] (gdec_at D_Do_missingSheets 39 rfl) (st := [.int (msR D t i)]) rfl rfl ⟨rfl, rfl⟩ (Nat.le_of_ble_eq_true rfl) rfl (by decide) rfl (Nat.le_of_ble_eq_true rfl) ⟨Nat.le_of_ble_eq_true rfl, Nat.le_of_ble_eq_true rfl⟩ ⟨Nat.le_of_ble_eq_true rfl, Nat.le_of_ble_eq_true rfl⟩ (gAft_r rfl rfl (h' := cDo 0 D) (st' := [.int (tkn ((dSt D) 5) ((dG D) (i * 5 + 2))), .int (msR D t i)]) (pc' := 72) (cs' := 0) (ss' := 0) rfl rfl rfl rfl rfl ?_)
      refine gW_b D_Do_missingSheets 40 4 (pc' := 31) (l' := [(0, .ref 0), (1, .int (nI t)), (2, .int ((dSt D) 0)), (3, .int ((msR D t i) + (tkn ((dSt D) 5) ((dG D) (i * 5 + 2))))), (4, .int ((nI i) + 1))]) (st' := []) (h' := cDo 0 D) (P := True) rfl trivial ?_
      rw [show ((nI i) + 1 : Int32) = nI (i + 1) from (gadd (rfl : nI i = nI i) (gk 1))]
      rw [show msR D t i + tkn (dSt D 5) (dG D (i * 5 + 2)) = msR D t (i + 1) from (if_pos d).symm]
      exact ih (i + 1) (by omega)
theorem m_missingSheets (D : gDom) (t : Nat) (ht : t < 4) (hs : dSz D ≤ 10) : gM K_Do_missingSheets { frames := 2, locals := 46, cells := 0, slots := 0 } [.ref 0, .int (nI t)] (cDo 0 D) (gD (.inl (some (.int (msI D t)))) (cDo 0 D)) := by
  refine gM_of rfl rfl (Nat.le_of_ble_eq_true rfl) (fun sc => ?_)
  refine gW_b D_Do_missingSheets 0 8 (pc' := 12) (l' := [(0, .ref 0), (1, .int (nI t)), (2, .int ((dSt D) 0))]) (st' := [.int (nI t), .ref 6]) (h' := cDo 0 D) (P := vp_in 0 6 ∧ True) rfl ⟨(gvl 0 6 (by omega) (by omega)), trivial⟩ ?_
  refine gW_callS (m_valueAt 4 t (dSh D) (by omega) (by omega)) lk_Do_109 [6] (gdec_at D_Do_missingSheets 8 rfl) (st := []) rfl rfl ⟨rfl, rfl⟩ (Nat.le_of_ble_eq_true rfl) (Nat.le_of_ble_eq_true rfl) ⟨Nat.le_of_ble_eq_true rfl, Nat.le_of_ble_eq_true rfl⟩ ⟨Nat.le_of_ble_eq_true rfl, Nat.le_of_ble_eq_true rfl⟩ (gAft_r rfl rfl (h' := cDo 0 D) (st' := [.int ((dSh D) t)]) (pc' := 15) (cs' := 0) (ss' := 0) rfl rfl rfl rfl rfl ?_)
  refine gW_b D_Do_missingSheets 9 6 (pc' := 23) (l' := [(0, .ref 0), (1, .int (nI t)), (2, .int ((dSt D) 0))]) (st' := [.int (nI t), .ref 1, .int ((-((dSh D) t)) * ((dSt D) 0))]) (h' := cDo 0 D) (P := True) rfl trivial ?_
  refine gW_callV (m_heldOf (dTr D) t (by omega)) lk_Do_149 [1, 2] (gdec_at D_Do_missingSheets 15 rfl) (st := [.int ((-((dSh D) t)) * ((dSt D) 0))]) rfl rfl ⟨rfl, rfl⟩ (Nat.le_of_ble_eq_true rfl) rfl (by decide) rfl (Nat.le_of_ble_eq_true rfl) ⟨Nat.le_of_ble_eq_true rfl, Nat.le_of_ble_eq_true rfl⟩ ⟨Nat.le_of_ble_eq_true rfl, Nat.le_of_ble_eq_true rfl⟩ (gAft_r rfl rfl (h' := cDo 0 D) (st' := [.int (hO (dTr D) t), .int ((-((dSh D) t)) * ((dSt D) 0))]) (pc' := 26) (cs' := 0) (ss' := 0) rfl rfl rfl rfl rfl ?_)
  refine gW_b D_Do_missingSheets 16 4 (pc' := 31) (l' := [(0, .ref 0), (1, .int (nI t)), (2, .int ((dSt D) 0)), (3, .int (((-((dSh D) t)) * ((dSt D) 0)) - (hO (dTr D) t))), (4, .int 0)]) (st' := []) (h' := cDo 0 D) (P := True) rfl trivial ?_
  refine l_missingSheets D t ht hs ?_ (dSz D) 0 (Nat.zero_add _)
  refine gW_b D_Do_missingSheets 44 2 (pc' := 82) (l' := [(0, .ref 0), (1, .int (nI t)), (2, .int ((dSt D) 0)), (3, .int (msR D t (dSz D))), (4, .int (nI (dSz D)))]) (st' := [.int 1, .int (msR D t (dSz D))]) (h' := cDo 0 D) (P := True) rfl trivial ?_
  refine gW_ic_lt (gdec_at D_Do_missingSheets 46 rfl) (tgt := 90) rfl (fun d => ?_) (fun d => ?_)
  · skip
    refine gW_b D_Do_missingSheets 50 2 (pc' := 101) (l' := [(0, .ref 0), (1, .int (nI t)), (2, .int ((dSt D) 0)), (3, .int (msR D t (dSz D))), (4, .int (nI (dSz D)))]) (st' := [.int 0]) (h' := cDo 0 D) (P := True) rfl trivial ?_
    rw [show msI D t = 0 from if_pos d]
    exact gW_iret (gdec_at D_Do_missingSheets 59 rfl) rfl rfl (Nat.le_of_ble_eq_true rfl) ⟨rfl, rfl⟩ (Nat.le_of_ble_eq_true rfl) (Nat.le_of_ble_eq_true rfl)
  · skip
    refine gW_b D_Do_missingSheets 47 2 (pc' := 87) (l' := [(0, .ref 0), (1, .int (nI t)), (2, .int ((dSt D) 0)), (3, .int (msR D t (dSz D))), (4, .int (nI (dSz D)))]) (st' := [.int 1, .int ((dSt D) 0)]) (h' := cDo 0 D) (P := True) rfl trivial ?_
    refine gW_ic_ge (gdec_at D_Do_missingSheets 49 rfl) (tgt := 94) rfl (fun e => ?_) (fun e => ?_)
    · skip
      have hd := gdiv1 (Int32.not_lt.mpr e)
      refine gW_b D_Do_missingSheets 52 7 (pc' := 101) (l' := [(0, .ref 0), (1, .int (nI t)), (2, .int ((dSt D) 0)), (3, .int (msR D t (dSz D))), (4, .int (nI (dSz D)))]) (st' := [.int ((((msR D t (dSz D)) + ((dSt D) 0)) - 1) / ((dSt D) 0))]) (h' := cDo 0 D) (P := ¬ ((dSt D) 0) = 0 ∧ True) rfl ⟨(by assumption), trivial⟩ ?_
      exact gW_iret (gdec_at D_Do_missingSheets 59 rfl) rfl rfl (Nat.le_of_ble_eq_true rfl) ⟨by rw [show msI D t = _ from (if_neg d).trans (if_neg (Int32.not_lt.mpr e))], rfl⟩ (Nat.le_of_ble_eq_true rfl) (Nat.le_of_ble_eq_true rfl)
    · skip
      refine gW_b D_Do_missingSheets 50 2 (pc' := 101) (l' := [(0, .ref 0), (1, .int (nI t)), (2, .int ((dSt D) 0)), (3, .int (msR D t (dSz D))), (4, .int (nI (dSz D)))]) (st' := [.int 0]) (h' := cDo 0 D) (P := True) rfl trivial ?_
      exact gW_iret (gdec_at D_Do_missingSheets 59 rfl) rfl rfl (Nat.le_of_ble_eq_true rfl) ⟨by rw [show msI D t = 0 from (if_neg d).trans (if_pos (Int32.not_le.mp e))], rfl⟩ (Nat.le_of_ble_eq_true rfl) (Nat.le_of_ble_eq_true rfl)
def p1 (r : Int32) : Nat → Nat → (Nat → Int32) → Int32 → Nat → (Nat → Int32) × Int32 × Nat
  | 0, _, f, so, s => (f, so, s)
  | n + 1, i, f, so, s => if s = 0 then (f, so, s) else if tn f i ≤ 1 then p1 r n (i + 1) f so s else p1 r n (i + 1) (soR i (moc f i 3) r f 4) (so + 1) (s - 1)
/-- s setters work on the section at place p -/
def wl (p : Nat) : Nat → gDom → gDom × Nat
  | 0, D => (D, 0)
  | s + 1, D => if clb D p = true then wl p s (layD D p) else (D, s + 1)
def p2 : Nat → Nat → gDom → Nat → gDom × Nat
  | 0, _, D, s => (D, s)
  | n + 1, i, D, s => p2 n (i + 1) (wl i s D).1 (wl i s D).2
def setTS (D : gDom) (f : Nat → Int32) (so : Int32) : gDom := (f, dG D, dSz D, dC D, dSt D, dSh D, dCu D, dLa D, dSw D, dDy D, dDn D, dLt D, dLd D, so)
def arD (D : gDom) : gDom := (dTr D, arrO (keyOf (dSt D 2)) (dG D) (dSz D - 1), dSz D, dC D, dSt D, dSh D, dCu D, dLa D, dSw D, dDy D + 1, dDn D, dLt D, dLd D, dSo D)
def pdA (D : gDom) : (Nat → Int32) × Int32 × Nat := p1 (dSt D 1) 6 0 (dTr D) (dSo D) (tnx (dSt D 3))
def pdB (D : gDom) : gDom × Nat := p2 (dSz D) 0 (setTS D (pdA D).1 (pdA D).2.1) (pdA D).2.2
/-- a day -/
def pdD (D : gDom) : gDom := arD (dsR (dSz (pdB D).1) (pdB D).1)
theorem p1_le (r : Int32) : ∀ (n i : Nat) (f : Nat → Int32) (so : Int32) (s : Nat), (p1 r n i f so s).2.2 ≤ s
  | 0, _, _, _, s => Nat.le_refl s
  | n + 1, i, f, so, s => by
    unfold p1
    split
    · exact Nat.le_refl s
    · split
      · exact p1_le r n _ _ _ _
      · exact Nat.le_trans (p1_le r n _ _ _ _) (Nat.sub_le s 1)
theorem layF_1 (g : Nat → Int32) (p : Nat) (v : Int32) (q : Nat) : layF g p v (q * 5 + 1) = g (q * 5 + 1) := by
  unfold layF upd
  rw [if_neg (by omega), if_neg (by omega)]
theorem dOK_lay {D : gDom} {p : Nat} (h : dOK D) : dOK (layD D p) := by
  refine ⟨h.1, fun q hq => ?_⟩
  show okT (layF (dG D) p _ (q * 5 + 1))
  rw [layF_1]
  exact h.2 q hq
theorem wl_ok (p : Nat) : ∀ (s : Nat) (D : gDom), dOK D → dOK (wl p s D).1 ∧ dSz (wl p s D).1 = dSz D ∧ (wl p s D).2 ≤ s
  | 0, D, h => ⟨h, rfl, Nat.le_refl 0⟩
  | s + 1, D, h => by
    unfold wl
    split
    · have := wl_ok p s (layD D p) (dOK_lay h)
      exact ⟨this.1, this.2.1, Nat.le_succ_of_le this.2.2⟩
    · exact ⟨h, rfl, Nat.le_refl _⟩
theorem p2_ok : ∀ (n i : Nat) (D : gDom) (s : Nat), dOK D → dOK (p2 n i D s).1 ∧ dSz (p2 n i D s).1 = dSz D
  | 0, _, D, s, h => ⟨h, rfl⟩
  | n + 1, i, D, s, h => by
    obtain ⟨h1, h2, -⟩ := wl_ok i s D h
    have := p2_ok n (i + 1) (wl i s D).1 (wl i s D).2 h1
    exact ⟨this.1, this.2.trans h2⟩
theorem dsS_le (D : gDom) (p : Nat) : dSz (dsS D p) ≤ dSz D := by
  unfold dsS
  split
  · show dSz (cdD D _) - 1 ≤ _
    rw [(cdD_1 D _).2]
    omega
  · exact Nat.le_refl _
theorem dsR_le : ∀ (p : Nat) (D : gDom), dSz (dsR p D) ≤ dSz D
  | 0, _ => Nat.le_refl _
  | p + 1, D => Nat.le_trans (dsR_le p (dsS D p)) (dsS_le D p)
theorem setTS_ok {D : gDom} {f : Nat → Int32} {so : Int32} (h : dOK D) : dOK (setTS D f so) := ⟨h.1, h.2⟩
theorem l_passDay1 (D : gDom) {sc : Nat × (Nat → Int32)} {n0 : Nat} {E : gO → gH → Prop} : ∀ (n i : Nat) (f : Nat → Int32) (so : Int32) (s : Nat), i + n = 6 → s ≤ 9 → (gW K_Do_passDay sc { frames := 3, locals := 73, cells := 0, slots := 0 } n0 E 0 0 64 [(0, .ref 0), (1, .int (nI ((p1 (dSt D 1) n i f so s).2.2)))] [] (cDo 0 ((p1 (dSt D 1) n i f so s).1, dG D, dSz D, dC D, dSt D, dSh D, dCu D, dLa D, dSw D, dDy D, dDn D, dLt D, dLd D, (p1 (dSt D 1) n i f so s).2.1))) → gW K_Do_passDay sc { frames := 3, locals := 73, cells := 0, slots := 0 } n0 E 0 0 9 [(0, .ref 0), (1, .int (nI s)), (2, .int (nI i))] [] (cDo 0 (f, dG D, dSz D, dC D, dSt D, dSh D, dCu D, dLa D, dSw D, dDy D, dDn D, dLt D, dLd D, so)) := by
  intro n
  induction n with
  | zero =>
    intro i f so s hi hs kk
    obtain rfl : 6 = i := by omega
    refine gW_b D_Do_passDay 7 2 (pc' := 12) (l' := [(0, .ref 0), (1, .int (nI s)), (2, .int (nI 6))]) (st' := [.int 6, .int (nI 6)]) (h' := cDo 0 (f, dG D, dSz D, dC D, dSt D, dSh D, dCu D, dLa D, dSw D, dDy D, dDn D, dLt D, dLd D, so)) (P := True) rfl trivial ?_
    refine gW_ic_ge (gdec_at D_Do_passDay 9 rfl) (tgt := 64) rfl (fun _ => ?_) (fun c => absurd ((gle (gk 6) (rfl : nI 6 = nI 6) (by omega) (by omega)).mpr (by omega)) c)
    refine gW_l [0, 1] (l' := [(0, .ref 0), (1, .int (nI s))]) rfl ?_
    exact kk
  | succ n ih =>
    intro i f so s hi hs kk
    have hb2 := tn_le f i
    refine gW_b D_Do_passDay 7 2 (pc' := 12) (l' := [(0, .ref 0), (1, .int (nI s)), (2, .int (nI i))]) (st' := [.int 6, .int (nI i)]) (h' := cDo 0 (f, dG D, dSz D, dC D, dSt D, dSh D, dCu D, dLa D, dSw D, dDy D, dDn D, dLt D, dLd D, so)) (P := True) rfl trivial ?_
    refine gW_ic_ge (gdec_at D_Do_passDay 9 rfl) (tgt := 64) rfl (fun c => absurd c (mt (gle (gk 6) (rfl : nI i = nI i) (by omega) (by omega)).mp (by omega))) (fun _ => ?_)
    refine gW_b D_Do_passDay 10 1 (pc' := 16) (l' := [(0, .ref 0), (1, .int (nI s)), (2, .int (nI i))]) (st' := [.int (nI s)]) (h' := cDo 0 (f, dG D, dSz D, dC D, dSt D, dSh D, dCu D, dLa D, dSw D, dDy D, dDn D, dLt D, dLd D, so)) (P := True) rfl trivial ?_
    refine gW_if_le (gdec_at D_Do_passDay 11 rfl) (tgt := 64) rfl (fun d => ?_) (fun d => ?_)
    · have d := (gle (rfl : nI s = nI s) (gk 0) (by omega) (by omega)).mp d
      rw [show p1 (dSt D 1) (n + 1) i f so s = (f, so, s) from if_pos (by omega)] at kk
      refine gW_l [0, 1] (l' := [(0, .ref 0), (1, .int (nI s))]) rfl ?_
      exact kk
    · have d := mt (gle (rfl : nI s = nI s) (gk 0) (by omega) (by omega)).mpr d
      have d1 : ¬ s = 0 := by omega
      refine gW_b D_Do_passDay 12 3 (pc' := 24) (l' := [(0, .ref 0), (1, .int (nI s)), (2, .int (nI i))]) (st' := [.int (nI i), .ref 1]) (h' := cDo 0 (f, dG D, dSz D, dC D, dSt D, dSh D, dCu D, dLa D, dSw D, dDy D, dDn D, dLt D, dLd D, so)) (P := True) rfl trivial ?_
      refine gW_callV (m_tonesIn f i (by omega)) lk_Do_113 [1, 2] (gdec_at D_Do_passDay 15 rfl) (st := []) rfl rfl ⟨rfl, rfl⟩ (Nat.le_of_ble_eq_true rfl) rfl (by decide) rfl (Nat.le_of_ble_eq_true rfl) ⟨Nat.le_of_ble_eq_true rfl, Nat.le_of_ble_eq_true rfl⟩ ⟨Nat.le_of_ble_eq_true rfl, Nat.le_of_ble_eq_true rfl⟩ (gAft_r rfl rfl (h' := cDo 0 (f, dG D, dSz D, dC D, dSt D, dSh D, dCu D, dLa D, dSw D, dDy D, dDn D, dLt D, dLd D, so)) (st' := [.int (nI (tn f i))]) (pc' := 27) (cs' := 0) (ss' := 0) rfl rfl rfl rfl rfl ?_)
      refine gW_b D_Do_passDay 16 1 (pc' := 28) (l' := [(0, .ref 0), (1, .int (nI s)), (2, .int (nI i))]) (st' := [.int 1, .int (nI (tn f i))]) (h' := cDo 0 (f, dG D, dSz D, dC D, dSt D, dSh D, dCu D, dLa D, dSw D, dDy D, dDn D, dLt D, dLd D, so)) (P := True) rfl trivial ?_
      refine gW_ic_le (gdec_at D_Do_passDay 17 rfl) (tgt := 58) rfl (fun e => ?_) (fun e => ?_)
      · have e := (gle (rfl : nI (tn f i) = nI (tn f i)) (gk 1) (by omega) (by omega)).mp e
        refine gW_b D_Do_passDay 33 2 (pc' := 9) (l' := [(0, .ref 0), (1, .int (nI s)), (2, .int ((nI i) + 1))]) (st' := []) (h' := cDo 0 (f, dG D, dSz D, dC D, dSt D, dSh D, dCu D, dLa D, dSw D, dDy D, dDn D, dLt D, dLd D, so)) (P := True) rfl trivial ?_
        rw [show ((nI i) + 1 : Int32) = nI (i + 1) from (gadd (rfl : nI i = nI i) (gk 1))]
        rw [show p1 (dSt D 1) (n + 1) i f so s = p1 (dSt D 1) n (i + 1) f so s from (if_neg d1).trans (if_pos e)] at kk
        exact ih (i + 1) f so s (by omega) hs kk
      · have e := mt (gle (rfl : nI (tn f i) = nI (tn f i)) (gk 1) (by omega) (by omega)).mpr e
        refine gW_b D_Do_passDay 18 7 (pc' := 42) (l' := [(0, .ref 0), (1, .int (nI s)), (2, .int (nI i))]) (st' := [.int ((dSt D) 1), .int (nI i), .ref 1]) (h' := cDo 0 (f, dG D, dSz D, dC D, dSt D, dSh D, dCu D, dLa D, dSw D, dDy D, dDn D, dLt D, dLd D, so)) (P := vp_in 1 6 ∧ True) rfl ⟨(gvl 1 6 (by omega) (by omega)), trivial⟩ ?_
        refine gW_callV (m_sortOut f i ((dSt D) 1) (by omega)) lk_Do_117 [1, 2] (gdec_at D_Do_passDay 25 rfl) (st := []) rfl rfl ⟨rfl, rfl⟩ (Nat.le_of_ble_eq_true rfl) rfl (by decide) rfl (Nat.le_of_ble_eq_true rfl) ⟨Nat.le_of_ble_eq_true rfl, Nat.le_of_ble_eq_true rfl⟩ ⟨Nat.le_of_ble_eq_true rfl, Nat.le_of_ble_eq_true rfl⟩ (gAft_r rfl rfl (h' := cDo 0 (soR i (moc f i 3) ((dSt D) 1) f 4, dG D, dSz D, dC D, dSt D, dSh D, dCu D, dLa D, dSw D, dDy D, dDn D, dLt D, dLd D, so)) (st' := []) (pc' := 45) (cs' := 0) (ss' := 0) rfl rfl rfl rfl rfl ?_)
        refine gW_b D_Do_passDay 26 9 (pc' := 9) (l' := [(0, .ref 0), (1, .int ((nI s) + (-1))), (2, .int ((nI i) + 1))]) (st' := []) (h' := cDo 0 (soR i (moc f i 3) ((dSt D) 1) f 4, dG D, dSz D, dC D, dSt D, dSh D, dCu D, dLa D, dSw D, dDy D, dDn D, dLt D, dLd D, so + 1)) (P := True) rfl trivial ?_
        rw [show ((nI s) + (-1) : Int32) = nI (s - 1) from (gdec1 (rfl : nI s = nI s) (by omega))]
        rw [show ((nI i) + 1 : Int32) = nI (i + 1) from (gadd (rfl : nI i = nI i) (gk 1))]
        rw [show p1 (dSt D 1) (n + 1) i f so s = p1 (dSt D 1) n (i + 1) (soR i (moc f i 3) (dSt D 1) f 4) (so + 1) (s - 1) from (if_neg d1).trans (if_neg e)] at kk
        exact ih (i + 1) _ _ (s - 1) (by omega) (by omega) kk
theorem l_passDay2 (p : Nat) {sc : Nat × (Nat → Int32)} {n0 : Nat} {E : gO → gH → Prop} : ∀ (s : Nat) (D : gDom), dOK D → p < dSz D → s ≤ 9 → (gW K_Do_passDay sc { frames := 3, locals := 73, cells := 0, slots := 0 } n0 E 0 0 100 [(0, .ref 0), (1, .int (nI ((wl p s D).2))), (2, .int (nI p))] [] (cDo 0 ((wl p s D).1))) → gW K_Do_passDay sc { frames := 3, locals := 73, cells := 0, slots := 0 } n0 E 0 0 77 [(0, .ref 0), (1, .int (nI s)), (2, .int (nI p))] [] (cDo 0 D) := by
  intro s
  induction s with
  | zero =>
    intro D hok hp hs kk
    refine gW_b D_Do_passDay 42 1 (pc' := 78) (l' := [(0, .ref 0), (1, .int (nI 0)), (2, .int (nI p))]) (st' := [.int (nI 0)]) (h' := cDo 0 D) (P := True) rfl trivial ?_
    refine gW_if_le (gdec_at D_Do_passDay 43 rfl) (tgt := 100) rfl (fun _ => ?_) (fun c => absurd ((gle (rfl : nI 0 = nI 0) (gk 0) (by omega) (by omega)).mpr (by omega)) c)
    exact kk
  | succ s ih =>
    intro D hok hp hs kk
    refine gW_b D_Do_passDay 42 1 (pc' := 78) (l' := [(0, .ref 0), (1, .int (nI (s + 1))), (2, .int (nI p))]) (st' := [.int (nI (s + 1))]) (h' := cDo 0 D) (P := True) rfl trivial ?_
    refine gW_if_le (gdec_at D_Do_passDay 43 rfl) (tgt := 100) rfl (fun c => absurd c (mt (gle (rfl : nI (s + 1) = nI (s + 1)) (gk 0) (by omega) (by omega)).mp (by omega))) (fun _ => ?_)
    refine gW_b D_Do_passDay 44 2 (pc' := 83) (l' := [(0, .ref 0), (1, .int (nI (s + 1))), (2, .int (nI p))]) (st' := [.int (nI p), .ref 0]) (h' := cDo 0 D) (P := True) rfl trivial ?_
    refine gW_callV (m_canBeLaid D p (by assumption) (by assumption)) lk_Do_124 [0, 1, 2, 3, 4, 5, 6, 7, 8, 9] (gdec_at D_Do_passDay 46 rfl) (st := []) rfl rfl ⟨rfl, rfl⟩ (Nat.le_of_ble_eq_true rfl) rfl (by decide) rfl (Nat.le_of_ble_eq_true rfl) ⟨Nat.le_of_ble_eq_true rfl, Nat.le_of_ble_eq_true rfl⟩ ⟨Nat.le_of_ble_eq_true rfl, Nat.le_of_ble_eq_true rfl⟩ (gAft_r rfl rfl (h' := cDo 0 D) (st' := [.int (bI (clb D p))]) (pc' := 86) (cs' := 0) (ss' := 0) rfl rfl rfl rfl rfl ?_)
    refine gW_if_eq (gdec_at D_Do_passDay 47 rfl) (tgt := 100) rfl (fun d => ?_) (fun d => ?_)
    · skip
      have d := bI_f d
      rw [show wl p (s + 1) D = (D, s + 1) from if_neg (by rw [d]; decide)] at kk
      exact kk
    · skip
      have d := bI_t d
      refine gW_b D_Do_passDay 48 2 (pc' := 91) (l' := [(0, .ref 0), (1, .int (nI (s + 1))), (2, .int (nI p))]) (st' := [.int (nI p), .ref 0]) (h' := cDo 0 D) (P := True) rfl trivial ?_
      refine gW_callV (m_layOnce D p (by assumption) (by assumption)) lk_Do_128 [0, 1, 2, 3, 4, 5, 6, 7, 8, 9] (gdec_at D_Do_passDay 50 rfl) (st := []) rfl rfl ⟨rfl, rfl⟩ (Nat.le_of_ble_eq_true rfl) rfl (by decide) rfl (Nat.le_of_ble_eq_true rfl) ⟨Nat.le_of_ble_eq_true rfl, Nat.le_of_ble_eq_true rfl⟩ ⟨Nat.le_of_ble_eq_true rfl, Nat.le_of_ble_eq_true rfl⟩ (gAft_r rfl rfl (h' := cDo 0 (layD D p)) (st' := []) (pc' := 94) (cs' := 0) (ss' := 0) rfl rfl rfl rfl rfl ?_)
      refine gW_b D_Do_passDay 51 2 (pc' := 77) (l' := [(0, .ref 0), (1, .int ((nI (s + 1)) + (-1))), (2, .int (nI p))]) (st' := []) (h' := cDo 0 (layD D p)) (P := True) rfl trivial ?_
      rw [show ((nI (s + 1)) + (-1) : Int32) = nI s from (gpred (rfl : nI (s + 1) = nI (s + 1)))]
      rw [show wl p (s + 1) D = wl p s (layD D p) from if_pos d] at kk
      exact ih (layD D p) (dOK_lay hok) hp (by omega) kk
theorem l_passDay3 {sc : Nat × (Nat → Int32)} {n0 : Nat} {E : gO → gH → Prop} : ∀ (n i : Nat) (D : gDom) (s : Nat), i + n = dSz D → dOK D → s ≤ 9 → (∀ s2, gW K_Do_passDay sc { frames := 3, locals := 73, cells := 0, slots := 0 } n0 E 0 0 106 [(0, .ref 0), (1, .int s2)] [] (cDo 0 ((p2 n i D s).1))) → gW K_Do_passDay sc { frames := 3, locals := 73, cells := 0, slots := 0 } n0 E 0 0 66 [(0, .ref 0), (1, .int (nI s)), (2, .int (nI i))] [] (cDo 0 D) := by
  intro n
  induction n with
  | zero =>
    intro i D s hi hok hs kk
    have hs10 := hok.1
    refine gW_b D_Do_passDay 37 4 (pc' := 74) (l' := [(0, .ref 0), (1, .int (nI s)), (2, .int (nI i))]) (st' := [.int (nI (dSz D)), .int (nI i)]) (h' := cDo 0 D) (P := True) rfl trivial ?_
    refine gW_ic_ge (gdec_at D_Do_passDay 41 rfl) (tgt := 106) rfl (fun _ => ?_) (fun c => absurd ((gle (rfl : nI (dSz D) = nI (dSz D)) (rfl : nI i = nI i) (by omega) (by omega)).mpr (by omega)) c)
    refine gW_l [0, 1] (l' := [(0, .ref 0), (1, .int (nI s))]) rfl ?_
    exact kk _
  | succ n ih =>
    intro i D s hi hok hs kk
    have hs10 := hok.1
    refine gW_b D_Do_passDay 37 4 (pc' := 74) (l' := [(0, .ref 0), (1, .int (nI s)), (2, .int (nI i))]) (st' := [.int (nI (dSz D)), .int (nI i)]) (h' := cDo 0 D) (P := True) rfl trivial ?_
    refine gW_ic_ge (gdec_at D_Do_passDay 41 rfl) (tgt := 106) rfl (fun c => absurd c (mt (gle (rfl : nI (dSz D) = nI (dSz D)) (rfl : nI i = nI i) (by omega) (by omega)).mp (by omega))) (fun _ => ?_)
    refine l_passDay2 i s D hok (by omega) hs ?_
    obtain ⟨h1, h2, h3⟩ := wl_ok i s D hok
    refine gW_b D_Do_passDay 53 2 (pc' := 66) (l' := [(0, .ref 0), (1, .int (nI ((wl i s D).2))), (2, .int ((nI i) + 1))]) (st' := []) (h' := cDo 0 ((wl i s D).1)) (P := True) rfl trivial ?_
    rw [show ((nI i) + 1 : Int32) = nI (i + 1) from (gadd (rfl : nI i = nI i) (gk 1))]
    exact ih (i + 1) (wl i s D).1 (wl i s D).2 (by rw [h2]; omega) h1 (by omega) kk
theorem m_passDay (D : gDom) (hok : dOK D) (hst : dSt D 3 = nI (tnx (dSt D 3))) (hs9 : tnx (dSt D 3) ≤ 9) : gM K_Do_passDay { frames := 3, locals := 73, cells := 0, slots := 0 } [.ref 0] (cDo 0 D) (gD (.inl none) (cDo 0 (pdD D))) := by
  refine gM_of rfl rfl (Nat.le_of_ble_eq_true rfl) (fun sc => ?_)
  refine gW_b D_Do_passDay 0 7 (pc' := 9) (l' := [(0, .ref 0), (1, .int ((dSt D) 3)), (2, .int 0)]) (st' := []) (h' := cDo 0 D) (P := vp_in 3 6 ∧ True) rfl ⟨(gvl 3 6 (by omega) (by omega)), trivial⟩ ?_
  rw [show (dSt D) 3 = nI (tnx (dSt D 3)) from hst]
  refine l_passDay1 D 6 0 (dTr D) (dSo D) (tnx (dSt D 3)) rfl hs9 ?_
  refine gW_b D_Do_passDay 35 2 (pc' := 66) (l' := [(0, .ref 0), (1, .int (nI ((pdA D).2.2))), (2, .int 0)]) (st' := []) (h' := cDo 0 ((pdA D).1, dG D, dSz D, dC D, dSt D, dSh D, dCu D, dLa D, dSw D, dDy D, dDn D, dLt D, dLd D, (pdA D).2.1)) (P := True) rfl trivial ?_
  refine l_passDay3 (dSz D) 0 (setTS D (pdA D).1 (pdA D).2.1) (pdA D).2.2 (Nat.zero_add _) (setTS_ok hok) (Nat.le_trans (p1_le _ _ _ _ _ _) hs9) (fun s2 => ?_)
  have h1 := p2_ok (dSz D) 0 (setTS D (pdA D).1 (pdA D).2.1) (pdA D).2.2 (setTS_ok hok)
  have h2 : dSz (pdB D).1 ≤ 10 := h1.1.1
  have h3 : dSz (dsR (dSz (pdB D).1) (pdB D).1) ≤ 10 := Nat.le_trans (dsR_le _ _) h2
  refine gW_b D_Do_passDay 55 1 (pc' := 107) (l' := [(0, .ref 0), (1, .int s2)]) (st' := [.ref 0]) (h' := cDo 0 ((pdB D).1)) (P := True) rfl trivial ?_
  refine gW_callV (m_dismissDone ((pdB D).1) (by assumption)) lk_Do_131 [0, 1, 2, 3, 4, 5, 6, 7, 8, 9] (gdec_at D_Do_passDay 56 rfl) (st := []) rfl rfl ⟨rfl, rfl⟩ (Nat.le_of_ble_eq_true rfl) rfl (by decide) rfl (Nat.le_of_ble_eq_true rfl) ⟨Nat.le_of_ble_eq_true rfl, Nat.le_of_ble_eq_true rfl⟩ ⟨Nat.le_of_ble_eq_true rfl, Nat.le_of_ble_eq_true rfl⟩ (gAft_r rfl rfl (h' := cDo 0 (dsR (dSz ((pdB D).1)) ((pdB D).1))) (st' := []) (pc' := 110) (cs' := 0) (ss' := 0) rfl rfl rfl rfl rfl ?_)
  refine gW_b D_Do_passDay 57 6 (pc' := 120) (l' := [(0, .ref 0), (1, .int s2)]) (st' := [.int ((dSt (dsR (dSz ((pdB D).1)) ((pdB D).1))) 2), .ref 3]) (h' := cDo 0 (dsR (dSz ((pdB D).1)) ((pdB D).1))) (P := vp_in 2 6 ∧ True) rfl ⟨(gvl 2 6 (by omega) (by omega)), trivial⟩ ?_
  refine gW_callV (m_arrange (dG (dsR (dSz ((pdB D).1)) ((pdB D).1))) (dSz (dsR (dSz ((pdB D).1)) ((pdB D).1))) (dC (dsR (dSz ((pdB D).1)) ((pdB D).1))) ((dSt (dsR (dSz ((pdB D).1)) ((pdB D).1))) 2) (by omega)) lk_Do_99 [3, 4] (gdec_at D_Do_passDay 63 rfl) (st := []) rfl rfl ⟨rfl, rfl⟩ (Nat.le_of_ble_eq_true rfl) rfl (by decide) rfl (Nat.le_of_ble_eq_true rfl) ⟨Nat.le_of_ble_eq_true rfl, Nat.le_of_ble_eq_true rfl⟩ ⟨Nat.le_of_ble_eq_true rfl, Nat.le_of_ble_eq_true rfl⟩ (gAft_r rfl rfl (h' := cDo 0 (dTr (dsR (dSz ((pdB D).1)) ((pdB D).1)), arrO (keyOf ((dSt (dsR (dSz ((pdB D).1)) ((pdB D).1))) 2)) (dG (dsR (dSz ((pdB D).1)) ((pdB D).1))) ((dSz (dsR (dSz ((pdB D).1)) ((pdB D).1))) - 1), dSz (dsR (dSz ((pdB D).1)) ((pdB D).1)), dC (dsR (dSz ((pdB D).1)) ((pdB D).1)), dSt (dsR (dSz ((pdB D).1)) ((pdB D).1)), dSh (dsR (dSz ((pdB D).1)) ((pdB D).1)), dCu (dsR (dSz ((pdB D).1)) ((pdB D).1)), dLa (dsR (dSz ((pdB D).1)) ((pdB D).1)), dSw (dsR (dSz ((pdB D).1)) ((pdB D).1)), dDy (dsR (dSz ((pdB D).1)) ((pdB D).1)), dDn (dsR (dSz ((pdB D).1)) ((pdB D).1)), dLt (dsR (dSz ((pdB D).1)) ((pdB D).1)), dLd (dsR (dSz ((pdB D).1)) ((pdB D).1)), dSo (dsR (dSz ((pdB D).1)) ((pdB D).1)))) (st' := []) (pc' := 123) (cs' := 0) (ss' := 0) rfl rfl rfl rfl rfl ?_)
  refine gW_b D_Do_passDay 64 6 (pc' := 133) (l' := [(0, .ref 0), (1, .int s2)]) (st' := []) (h' := cDo 0 (dTr (dsR (dSz ((pdB D).1)) ((pdB D).1)), arrO (keyOf ((dSt (dsR (dSz ((pdB D).1)) ((pdB D).1))) 2)) (dG (dsR (dSz ((pdB D).1)) ((pdB D).1))) ((dSz (dsR (dSz ((pdB D).1)) ((pdB D).1))) - 1), dSz (dsR (dSz ((pdB D).1)) ((pdB D).1)), dC (dsR (dSz ((pdB D).1)) ((pdB D).1)), dSt (dsR (dSz ((pdB D).1)) ((pdB D).1)), dSh (dsR (dSz ((pdB D).1)) ((pdB D).1)), dCu (dsR (dSz ((pdB D).1)) ((pdB D).1)), dLa (dsR (dSz ((pdB D).1)) ((pdB D).1)), dSw (dsR (dSz ((pdB D).1)) ((pdB D).1)), (dDy (dsR (dSz ((pdB D).1)) ((pdB D).1))) + 1, dDn (dsR (dSz ((pdB D).1)) ((pdB D).1)), dLt (dsR (dSz ((pdB D).1)) ((pdB D).1)), dLd (dsR (dSz ((pdB D).1)) ((pdB D).1)), dSo (dsR (dSz ((pdB D).1)) ((pdB D).1)))) (P := True) rfl trivial ?_
  exact gW_vret (gdec_at D_Do_passDay 70 rfl) rfl (Nat.le_of_ble_eq_true rfl) ⟨rfl, rfl⟩ (Nat.le_of_ble_eq_true rfl) (Nat.le_of_ble_eq_true rfl)

theorem m_DocopyFrom (D D2 : gDom) : gM K_Do_copyFrom { frames := 3, locals := 82, cells := 0, slots := 0 } [.ref 0, .ref 10] (cDo 0 D2 ++ cDo 10 D) (gD (.inl none) (cDo 0 D ++ cDo 10 D)) := by
  refine gM_of rfl rfl (Nat.le_of_ble_eq_true rfl) (fun sc => ?_)
  refine gW_b D_Do_copyFrom 0 4 (pc' := 8) (l' := [(0, .ref 0), (1, .ref 10)]) (st' := [.ref 11, .ref 1]) (h' := cDo 0 D2 ++ cDo 10 D) (P := True) rfl trivial ?_
  refine gW_callV (m_TrcopyFrom (dTr D) (dTr D2)) lk_Do_48 [1, 2, 11, 12] (gdec_at D_Do_copyFrom 4 rfl) (st := []) rfl rfl ⟨rfl, rfl⟩ (Nat.le_of_ble_eq_true rfl) rfl (by decide) rfl (Nat.le_of_ble_eq_true rfl) ⟨Nat.le_of_ble_eq_true rfl, Nat.le_of_ble_eq_true rfl⟩ ⟨Nat.le_of_ble_eq_true rfl, Nat.le_of_ble_eq_true rfl⟩ (gAft_r rfl rfl (h' := cDo 0 (dTr D, dG D2, dSz D2, dC D2, dSt D2, dSh D2, dCu D2, dLa D2, dSw D2, dDy D2, dDn D2, dLt D2, dLd D2, dSo D2) ++ cDo 10 D) (st' := []) (pc' := 11) (cs' := 0) (ss' := 0) rfl rfl rfl rfl rfl ?_)
  refine gW_b D_Do_copyFrom 5 4 (pc' := 19) (l' := [(0, .ref 0), (1, .ref 10)]) (st' := [.ref 13, .ref 3]) (h' := cDo 0 (dTr D, dG D2, dSz D2, dC D2, dSt D2, dSh D2, dCu D2, dLa D2, dSw D2, dDy D2, dDn D2, dLt D2, dLd D2, dSo D2) ++ cDo 10 D) (P := True) rfl trivial ?_
  refine gW_callV (m_SecopyFrom (dG D) (dG D2) (dSz D) (dSz D2) (dC D) (dC D2)) lk_Do_52 [3, 4, 13, 14] (gdec_at D_Do_copyFrom 9 rfl) (st := []) rfl rfl ⟨rfl, rfl⟩ (Nat.le_of_ble_eq_true rfl) rfl (by decide) rfl (Nat.le_of_ble_eq_true rfl) ⟨Nat.le_of_ble_eq_true rfl, Nat.le_of_ble_eq_true rfl⟩ ⟨Nat.le_of_ble_eq_true rfl, Nat.le_of_ble_eq_true rfl⟩ (gAft_r rfl rfl (h' := cDo 0 (dTr D, dG D, dSz D, dC D, dSt D2, dSh D2, dCu D2, dLa D2, dSw D2, dDy D2, dDn D2, dLt D2, dLd D2, dSo D2) ++ cDo 10 D) (st' := []) (pc' := 22) (cs' := 0) (ss' := 0) rfl rfl rfl rfl rfl ?_)
  refine gW_b D_Do_copyFrom 10 4 (pc' := 30) (l' := [(0, .ref 0), (1, .ref 10)]) (st' := [.ref 5, .ref 15]) (h' := cDo 0 (dTr D, dG D, dSz D, dC D, dSt D2, dSh D2, dCu D2, dLa D2, dSw D2, dDy D2, dDn D2, dLt D2, dLd D2, dSo D2) ++ cDo 10 D) (P := True) rfl trivial ?_
  refine gW_callS (m_copyRow 6 (dSt D) (dSt D2) (by omega)) lk_Do_44 [15, 5] (gdec_at D_Do_copyFrom 14 rfl) (st := []) rfl rfl ⟨rfl, rfl⟩ (Nat.le_of_ble_eq_true rfl) (Nat.le_of_ble_eq_true rfl) ⟨Nat.le_of_ble_eq_true rfl, Nat.le_of_ble_eq_true rfl⟩ ⟨Nat.le_of_ble_eq_true rfl, Nat.le_of_ble_eq_true rfl⟩ (gAft_r rfl rfl (h' := cDo 0 (dTr D, dG D, dSz D, dC D, dSt D, dSh D2, dCu D2, dLa D2, dSw D2, dDy D2, dDn D2, dLt D2, dLd D2, dSo D2) ++ cDo 10 D) (st' := []) (pc' := 33) (cs' := 0) (ss' := 0) rfl rfl rfl rfl rfl ?_)
  refine gW_b D_Do_copyFrom 15 4 (pc' := 41) (l' := [(0, .ref 0), (1, .ref 10)]) (st' := [.ref 6, .ref 16]) (h' := cDo 0 (dTr D, dG D, dSz D, dC D, dSt D, dSh D2, dCu D2, dLa D2, dSw D2, dDy D2, dDn D2, dLt D2, dLd D2, dSo D2) ++ cDo 10 D) (P := True) rfl trivial ?_
  refine gW_callS (m_copyRow 4 (dSh D) (dSh D2) (by omega)) lk_Do_44 [16, 6] (gdec_at D_Do_copyFrom 19 rfl) (st := []) rfl rfl ⟨rfl, rfl⟩ (Nat.le_of_ble_eq_true rfl) (Nat.le_of_ble_eq_true rfl) ⟨Nat.le_of_ble_eq_true rfl, Nat.le_of_ble_eq_true rfl⟩ ⟨Nat.le_of_ble_eq_true rfl, Nat.le_of_ble_eq_true rfl⟩ (gAft_r rfl rfl (h' := cDo 0 (dTr D, dG D, dSz D, dC D, dSt D, dSh D, dCu D2, dLa D2, dSw D2, dDy D2, dDn D2, dLt D2, dLd D2, dSo D2) ++ cDo 10 D) (st' := []) (pc' := 44) (cs' := 0) (ss' := 0) rfl rfl rfl rfl rfl ?_)
  refine gW_b D_Do_copyFrom 20 4 (pc' := 52) (l' := [(0, .ref 0), (1, .ref 10)]) (st' := [.ref 7, .ref 17]) (h' := cDo 0 (dTr D, dG D, dSz D, dC D, dSt D, dSh D, dCu D2, dLa D2, dSw D2, dDy D2, dDn D2, dLt D2, dLd D2, dSo D2) ++ cDo 10 D) (P := True) rfl trivial ?_
  refine gW_callS (m_copyRow 4 (dCu D) (dCu D2) (by omega)) lk_Do_44 [17, 7] (gdec_at D_Do_copyFrom 24 rfl) (st := []) rfl rfl ⟨rfl, rfl⟩ (Nat.le_of_ble_eq_true rfl) (Nat.le_of_ble_eq_true rfl) ⟨Nat.le_of_ble_eq_true rfl, Nat.le_of_ble_eq_true rfl⟩ ⟨Nat.le_of_ble_eq_true rfl, Nat.le_of_ble_eq_true rfl⟩ (gAft_r rfl rfl (h' := cDo 0 (dTr D, dG D, dSz D, dC D, dSt D, dSh D, dCu D, dLa D2, dSw D2, dDy D2, dDn D2, dLt D2, dLd D2, dSo D2) ++ cDo 10 D) (st' := []) (pc' := 55) (cs' := 0) (ss' := 0) rfl rfl rfl rfl rfl ?_)
  refine gW_b D_Do_copyFrom 25 4 (pc' := 63) (l' := [(0, .ref 0), (1, .ref 10)]) (st' := [.ref 8, .ref 18]) (h' := cDo 0 (dTr D, dG D, dSz D, dC D, dSt D, dSh D, dCu D, dLa D2, dSw D2, dDy D2, dDn D2, dLt D2, dLd D2, dSo D2) ++ cDo 10 D) (P := True) rfl trivial ?_
  refine gW_callS (m_copyRow 4 (dLa D) (dLa D2) (by omega)) lk_Do_44 [18, 8] (gdec_at D_Do_copyFrom 29 rfl) (st := []) rfl rfl ⟨rfl, rfl⟩ (Nat.le_of_ble_eq_true rfl) (Nat.le_of_ble_eq_true rfl) ⟨Nat.le_of_ble_eq_true rfl, Nat.le_of_ble_eq_true rfl⟩ ⟨Nat.le_of_ble_eq_true rfl, Nat.le_of_ble_eq_true rfl⟩ (gAft_r rfl rfl (h' := cDo 0 (dTr D, dG D, dSz D, dC D, dSt D, dSh D, dCu D, dLa D, dSw D2, dDy D2, dDn D2, dLt D2, dLd D2, dSo D2) ++ cDo 10 D) (st' := []) (pc' := 66) (cs' := 0) (ss' := 0) rfl rfl rfl rfl rfl ?_)
  refine gW_b D_Do_copyFrom 30 4 (pc' := 74) (l' := [(0, .ref 0), (1, .ref 10)]) (st' := [.ref 9, .ref 19]) (h' := cDo 0 (dTr D, dG D, dSz D, dC D, dSt D, dSh D, dCu D, dLa D, dSw D2, dDy D2, dDn D2, dLt D2, dLd D2, dSo D2) ++ cDo 10 D) (P := True) rfl trivial ?_
  refine gW_callS (m_copyRow 4 (dSw D) (dSw D2) (by omega)) lk_Do_44 [19, 9] (gdec_at D_Do_copyFrom 34 rfl) (st := []) rfl rfl ⟨rfl, rfl⟩ (Nat.le_of_ble_eq_true rfl) (Nat.le_of_ble_eq_true rfl) ⟨Nat.le_of_ble_eq_true rfl, Nat.le_of_ble_eq_true rfl⟩ ⟨Nat.le_of_ble_eq_true rfl, Nat.le_of_ble_eq_true rfl⟩ (gAft_r rfl rfl (h' := cDo 0 (dTr D, dG D, dSz D, dC D, dSt D, dSh D, dCu D, dLa D, dSw D, dDy D2, dDn D2, dLt D2, dLd D2, dSo D2) ++ cDo 10 D) (st' := []) (pc' := 77) (cs' := 0) (ss' := 0) rfl rfl rfl rfl rfl ?_)
  refine gW_b D_Do_copyFrom 35 20 (pc' := 117) (l' := [(0, .ref 0), (1, .ref 10)]) (st' := []) (h' := cDo 0 D ++ cDo 10 D) (P := True) rfl trivial ?_
  exact gW_vret (gdec_at D_Do_copyFrom 55 rfl) rfl (Nat.le_of_ble_eq_true rfl) ⟨rfl, rfl⟩ (Nat.le_of_ble_eq_true rfl) (Nat.le_of_ble_eq_true rfl)
end
section
/-! GoldSheets$SectionText. Printed by wip/whole/meths4.py -/
/-- codes, length, the parts that were read: tones, cubes, days, how many; stage; the part under way -/
abbrev gTxt : Type := (Nat → Int32) × Nat × (Nat → Int32) × (Nat → Int32) × (Nat → Int32) × Nat × Nat × Int32 × Int32 × Int32
abbrev xCod (T : gTxt) : Nat → Int32 := T.1
abbrev xLen (T : gTxt) : Nat := T.2.1
abbrev xTon (T : gTxt) : Nat → Int32 := T.2.2.1
abbrev xCub (T : gTxt) : Nat → Int32 := T.2.2.2.1
abbrev xDay (T : gTxt) : Nat → Int32 := T.2.2.2.2.1
abbrev xPrt (T : gTxt) : Nat := T.2.2.2.2.2.1
abbrev xStg (T : gTxt) : Nat := T.2.2.2.2.2.2.1
abbrev xT (T : gTxt) : Int32 := T.2.2.2.2.2.2.2.1
abbrev xC (T : gTxt) : Int32 := T.2.2.2.2.2.2.2.2.1
abbrev xD (T : gTxt) : Int32 := T.2.2.2.2.2.2.2.2.2
abbrev cTx (b : Nat) (T : gTxt) : gH := [cO 4 [.ref (b + 1), .int (nI (xLen T)), .ref (b + 2), .ref (b + 3), .ref (b + 4), .int (nI (xPrt T)), .int (nI (xStg T)), .int (xT T), .int (xC T), .int (xD T)], cI 60 (xCod T), cI 12 (xTon T), cI 12 (xCub T), cI 12 (xDay T)]
theorem nar_b (b : Bool) : narrow .boolean (.int (bI b)) = .int (bI b) := by cases b <;> rfl
def txOK (T : gTxt) : Prop := xLen T ≤ 60 ∧ xPrt T ≤ 12 ∧ xStg T ≤ 4
def dig (c : Int32) : Bool := decide (48 ≤ c) && decide (c ≤ 57)

theorem m_isDigit (c : Int32) : gM K_Tx_isDigit { frames := 0, locals := 0, cells := 0, slots := 0 } [.int c] ([]) (gD (.inl (some (.int (bI (dig c))))) ([])) := by
  refine gM_of rfl rfl (Nat.le_of_ble_eq_true rfl) (fun sc => ?_)
  refine gW_b D_Tx_isDigit 0 2 (pc' := 3) (l' := [(0, .int c)]) (st' := [.int 48, .int c]) (h' := []) (P := True) rfl trivial ?_
  refine gW_ic_lt (gdec_at D_Tx_isDigit 2 rfl) (tgt := 16) rfl (fun d => ?_) (fun d => ?_)
  · skip
    refine gW_b D_Tx_isDigit 8 1 (pc' := 17) (l' := [(0, .int c)]) (st' := [.int 0]) (h' := []) (P := True) rfl trivial ?_
    rw [show bI (dig c) = 0 from by simp [dig, Int32.not_le.mpr d, bI]]
    exact gW_iret (gdec_at D_Tx_isDigit 9 rfl) rfl rfl (Nat.le_of_ble_eq_true rfl) ⟨rfl, rfl⟩ (Nat.le_of_ble_eq_true rfl) (Nat.le_of_ble_eq_true rfl)
  · skip
    refine gW_b D_Tx_isDigit 3 2 (pc' := 9) (l' := [(0, .int c)]) (st' := [.int 57, .int c]) (h' := []) (P := True) rfl trivial ?_
    refine gW_ic_gt (gdec_at D_Tx_isDigit 5 rfl) (tgt := 16) rfl (fun e => ?_) (fun e => ?_)
    · skip
      refine gW_b D_Tx_isDigit 8 1 (pc' := 17) (l' := [(0, .int c)]) (st' := [.int 0]) (h' := []) (P := True) rfl trivial ?_
      rw [show bI (dig c) = 0 from by simp [dig, Int32.not_le.mpr e, bI]]
      exact gW_iret (gdec_at D_Tx_isDigit 9 rfl) rfl rfl (Nat.le_of_ble_eq_true rfl) ⟨rfl, rfl⟩ (Nat.le_of_ble_eq_true rfl) (Nat.le_of_ble_eq_true rfl)
    · skip
      refine gW_b D_Tx_isDigit 6 2 (pc' := 17) (l' := [(0, .int c)]) (st' := [.int 1]) (h' := []) (P := True) rfl trivial ?_
      rw [show bI (dig c) = 1 from by simp [dig, Int32.not_lt.mp d, Int32.not_lt.mp e, bI]]
      exact gW_iret (gdec_at D_Tx_isDigit 9 rfl) rfl rfl (Nat.le_of_ble_eq_true rfl) ⟨rfl, rfl⟩ (Nat.le_of_ble_eq_true rfl) (Nat.le_of_ble_eq_true rfl)
def aF (T : gTxt) (c : Int32) : Bool × gTxt := if c < 49 then (false, T) else if c ≤ 57 then (true, (xCod T, xLen T, xTon T, xCub T, xDay T, xPrt T, 1, xT T, c - 48, xD T)) else (false, T)
def aCn (T : gTxt) (c : Int32) : Bool × gTxt := if bI (dig c) = 0 then (false, T) else if 10 * xC T + c - 48 ≤ 500 then (true, (xCod T, xLen T, xTon T, xCub T, xDay T, xPrt T, xStg T, xT T, 10 * xC T + c - 48, xD T)) else (false, T)
def aC (T : gTxt) (c : Int32) : Bool × gTxt := if c < 97 then aCn T c else if 101 ≤ c then aCn T c else (true, (xCod T, xLen T, xTon T, xCub T, xDay T, xPrt T, 2, c - 97, xC T, xD T))
def aA (T : gTxt) (c : Int32) : Bool × gTxt := if c = 64 then (true, (xCod T, xLen T, xTon T, xCub T, xDay T, xPrt T, 3, xT T, xC T, xD T)) else (false, T)
def aE (T : gTxt) (c : Int32) : Bool × gTxt := if bI (dig c) = 0 then (false, T) else (true, (xCod T, xLen T, xTon T, xCub T, xDay T, xPrt T, 4, xT T, xC T, c - 48))
def kp (T : gTxt) : gTxt := if 12 ≤ xPrt T then T else (xCod T, xLen T, upd (xTon T) (xPrt T) (xT T), upd (xCub T) (xPrt T) (xC T), upd (xDay T) (xPrt T) (xD T), xPrt T + 1, xStg T, xT T, xC T, xD T)
def stg0 (T : gTxt) : gTxt := (xCod T, xLen T, xTon T, xCub T, xDay T, xPrt T, 0, xT T, xC T, xD T)
def aD (T : gTxt) (c : Int32) : Bool × gTxt := if c = 59 then (true, stg0 (kp T)) else if bI (dig c) = 0 then (false, T) else if xD T = 0 then (false, T) else if 10 * xD T + c - 48 ≤ 999 then (true, (xCod T, xLen T, xTon T, xCub T, xDay T, xPrt T, xStg T, xT T, xC T, 10 * xD T + c - 48)) else (false, T)
def acc (T : gTxt) (c : Int32) : Bool × gTxt := if xStg T = 0 then aF T c else if xStg T = 1 then aC T c else if xStg T = 2 then aA T c else if xStg T = 3 then aE T c else aD T c
theorem kp_ok {T : gTxt} (h : txOK T) : txOK (kp T) ∧ xLen (kp T) = xLen T ∧ xCod (kp T) = xCod T := by
  unfold kp
  obtain ⟨h1, h2, h3⟩ := h
  split
  · exact ⟨⟨h1, h2, h3⟩, rfl, rfl⟩
  · exact ⟨⟨h1, by show xPrt T + 1 ≤ 12; omega, h3⟩, rfl, rfl⟩
theorem acc_ok {T : gTxt} (c : Int32) (h : txOK T) : txOK (acc T c).2 ∧ xLen (acc T c).2 = xLen T ∧ xCod (acc T c).2 = xCod T := by
  obtain ⟨h1, h2, h3⟩ := id h
  unfold acc
  split
  · unfold aF
    split
    · exact ⟨h, rfl, rfl⟩
    · split
      · exact ⟨⟨h1, h2, Nat.le_of_ble_eq_true rfl⟩, rfl, rfl⟩
      · exact ⟨h, rfl, rfl⟩
  · have hn : txOK (aCn T c).2 ∧ xLen (aCn T c).2 = xLen T ∧ xCod (aCn T c).2 = xCod T := by
      unfold aCn
      split
      · exact ⟨h, rfl, rfl⟩
      · split
        · exact ⟨⟨h1, h2, h3⟩, rfl, rfl⟩
        · exact ⟨h, rfl, rfl⟩
    split
    · unfold aC
      split
      · exact hn
      · split
        · exact hn
        · exact ⟨⟨h1, h2, Nat.le_of_ble_eq_true rfl⟩, rfl, rfl⟩
    · split
      · unfold aA
        split
        · exact ⟨⟨h1, h2, Nat.le_of_ble_eq_true rfl⟩, rfl, rfl⟩
        · exact ⟨h, rfl, rfl⟩
      · split
        · unfold aE
          split
          · exact ⟨h, rfl, rfl⟩
          · exact ⟨⟨h1, h2, Nat.le_of_ble_eq_true rfl⟩, rfl, rfl⟩
        · unfold aD
          split
          · obtain ⟨k1, k2, k3⟩ := kp_ok h
            exact ⟨⟨k1.1, k1.2.1, Nat.zero_le _⟩, k2, k3⟩
          · split
            · exact ⟨h, rfl, rfl⟩
            · split
              · exact ⟨h, rfl, rfl⟩
              · split
                · exact ⟨⟨h1, h2, h3⟩, rfl, rfl⟩
                · exact ⟨h, rfl, rfl⟩

theorem m_acceptsFirstDigit (T : gTxt) (c : Int32) (hT : txOK T) : gM K_Tx_acceptsFirstDigit { frames := 0, locals := 0, cells := 0, slots := 0 } [.ref 0, .int c] (cTx 0 T) (gD (.inl (some (.int (bI (aF T c).1)))) (cTx 0 ((aF T c).2))) := by
  refine gM_of rfl rfl (Nat.le_of_ble_eq_true rfl) (fun sc => ?_)
  refine gW_b D_Tx_acceptsFirstDigit 0 2 (pc' := 3) (l' := [(0, .ref 0), (1, .int c)]) (st' := [.int 49, .int c]) (h' := cTx 0 T) (P := True) rfl trivial ?_
  refine gW_ic_lt (gdec_at D_Tx_acceptsFirstDigit 2 rfl) (tgt := 12) rfl (fun d => ?_) (fun d => ?_)
  · skip
    refine gW_b D_Tx_acceptsFirstDigit 6 1 (pc' := 13) (l' := [(0, .ref 0), (1, .int c)]) (st' := [.int 0]) (h' := cTx 0 T) (P := True) rfl trivial ?_
    rw [show aF T c = (false, T) from if_pos d]
    exact gW_iret (gdec_at D_Tx_acceptsFirstDigit 7 rfl) rfl rfl (Nat.le_of_ble_eq_true rfl) ⟨rfl, rfl⟩ (Nat.le_of_ble_eq_true rfl) (Nat.le_of_ble_eq_true rfl)
  · skip
    refine gW_b D_Tx_acceptsFirstDigit 3 2 (pc' := 9) (l' := [(0, .ref 0), (1, .int c)]) (st' := [.int 57, .int c]) (h' := cTx 0 T) (P := True) rfl trivial ?_
    refine gW_ic_le (gdec_at D_Tx_acceptsFirstDigit 5 rfl) (tgt := 14) rfl (fun e => ?_) (fun e => ?_)
    · skip
      refine gW_b D_Tx_acceptsFirstDigit 8 9 (pc' := 28) (l' := [(0, .ref 0), (1, .int c)]) (st' := [.int 1]) (h' := cTx 0 (xCod T, xLen T, xTon T, xCub T, xDay T, xPrt T, 1, xT T, c - 48, xD T)) (P := True) rfl trivial ?_
      rw [show aF T c = (true, (xCod T, xLen T, xTon T, xCub T, xDay T, xPrt T, 1, xT T, c - 48, xD T)) from (if_neg d).trans (if_pos e)]
      exact gW_iret (gdec_at D_Tx_acceptsFirstDigit 17 rfl) rfl rfl (Nat.le_of_ble_eq_true rfl) ⟨rfl, rfl⟩ (Nat.le_of_ble_eq_true rfl) (Nat.le_of_ble_eq_true rfl)
    · skip
      refine gW_b D_Tx_acceptsFirstDigit 6 1 (pc' := 13) (l' := [(0, .ref 0), (1, .int c)]) (st' := [.int 0]) (h' := cTx 0 T) (P := True) rfl trivial ?_
      rw [show aF T c = (false, T) from (if_neg d).trans (if_neg e)]
      exact gW_iret (gdec_at D_Tx_acceptsFirstDigit 7 rfl) rfl rfl (Nat.le_of_ble_eq_true rfl) ⟨rfl, rfl⟩ (Nat.le_of_ble_eq_true rfl) (Nat.le_of_ble_eq_true rfl)

theorem m_acceptsInCubes (T : gTxt) (c : Int32) (hT : txOK T) : gM K_Tx_acceptsInCubes { frames := 1, locals := 20, cells := 0, slots := 0 } [.ref 0, .int c] (cTx 0 T) (gD (.inl (some (.int (bI (aC T c).1)))) (cTx 0 ((aC T c).2))) := by
  refine gM_of rfl rfl (Nat.le_of_ble_eq_true rfl) (fun sc => ?_)
  refine gW_b D_Tx_acceptsInCubes 0 2 (pc' := 3) (l' := [(0, .ref 0), (1, .int c)]) (st' := [.int 97, .int c]) (h' := cTx 0 T) (P := True) rfl trivial ?_
  refine gW_ic_lt (gdec_at D_Tx_acceptsInCubes 2 rfl) (tgt := 27) rfl (fun d => ?_) (fun d => ?_)
  · skip
    refine gW_b D_Tx_acceptsInCubes 16 10 (pc' := 41) (l' := [(0, .ref 0), (1, .int c), (2, .int (((10 * (xC T)) + c) - 48))]) (st' := [.int c]) (h' := cTx 0 T) (P := True) rfl trivial ?_
    refine gW_callS (m_isDigit c) lk_Tx_66 [] (gdec_at D_Tx_acceptsInCubes 26 rfl) (st := []) rfl rfl ⟨rfl, rfl⟩ (Nat.le_of_ble_eq_true rfl) (Nat.le_of_ble_eq_true rfl) ⟨Nat.le_of_ble_eq_true rfl, Nat.le_of_ble_eq_true rfl⟩ ⟨Nat.le_of_ble_eq_true rfl, Nat.le_of_ble_eq_true rfl⟩ (gAft_r rfl rfl (h' := cTx 0 T) (st' := [.int (bI (dig c))]) (pc' := 44) (cs' := 0) (ss' := 0) rfl rfl rfl rfl rfl ?_)
    refine gW_if_eq (gdec_at D_Tx_acceptsInCubes 27 rfl) (tgt := 54) rfl (fun f => ?_) (fun f => ?_)
    · skip
      refine gW_b D_Tx_acceptsInCubes 31 1 (pc' := 55) (l' := [(0, .ref 0), (1, .int c), (2, .int (((10 * (xC T)) + c) - 48))]) (st' := [.int 0]) (h' := cTx 0 T) (P := True) rfl trivial ?_
      rw [show aC T c = (false, T) from (show aC T c = aCn T c from if_pos d).trans (if_pos f)]
      exact gW_iret (gdec_at D_Tx_acceptsInCubes 32 rfl) rfl rfl (Nat.le_of_ble_eq_true rfl) ⟨rfl, rfl⟩ (Nat.le_of_ble_eq_true rfl) (Nat.le_of_ble_eq_true rfl)
    · skip
      refine gW_b D_Tx_acceptsInCubes 28 2 (pc' := 51) (l' := [(0, .ref 0), (1, .int c), (2, .int (((10 * (xC T)) + c) - 48))]) (st' := [.int 500, .int (((10 * (xC T)) + c) - 48)]) (h' := cTx 0 T) (P := True) rfl trivial ?_
      refine gW_ic_le (gdec_at D_Tx_acceptsInCubes 30 rfl) (tgt := 56) rfl (fun g => ?_) (fun g => ?_)
      · skip
        refine gW_b D_Tx_acceptsInCubes 33 4 (pc' := 62) (l' := [(0, .ref 0), (1, .int c), (2, .int (((10 * (xC T)) + c) - 48))]) (st' := [.int 1]) (h' := cTx 0 (xCod T, xLen T, xTon T, xCub T, xDay T, xPrt T, xStg T, xT T, ((10 * (xC T)) + c) - 48, xD T)) (P := True) rfl trivial ?_
        rw [show aC T c = (true, (xCod T, xLen T, xTon T, xCub T, xDay T, xPrt T, xStg T, xT T, 10 * xC T + c - 48, xD T)) from (show aC T c = aCn T c from if_pos d).trans ((if_neg f).trans (if_pos g))]
        exact gW_iret (gdec_at D_Tx_acceptsInCubes 37 rfl) rfl rfl (Nat.le_of_ble_eq_true rfl) ⟨rfl, rfl⟩ (Nat.le_of_ble_eq_true rfl) (Nat.le_of_ble_eq_true rfl)
      · skip
        refine gW_b D_Tx_acceptsInCubes 31 1 (pc' := 55) (l' := [(0, .ref 0), (1, .int c), (2, .int (((10 * (xC T)) + c) - 48))]) (st' := [.int 0]) (h' := cTx 0 T) (P := True) rfl trivial ?_
        rw [show aC T c = (false, T) from (show aC T c = aCn T c from if_pos d).trans ((if_neg f).trans (if_neg g))]
        exact gW_iret (gdec_at D_Tx_acceptsInCubes 32 rfl) rfl rfl (Nat.le_of_ble_eq_true rfl) ⟨rfl, rfl⟩ (Nat.le_of_ble_eq_true rfl) (Nat.le_of_ble_eq_true rfl)
  · skip
    refine gW_b D_Tx_acceptsInCubes 3 2 (pc' := 9) (l' := [(0, .ref 0), (1, .int c)]) (st' := [.int 101, .int c]) (h' := cTx 0 T) (P := True) rfl trivial ?_
    refine gW_ic_ge (gdec_at D_Tx_acceptsInCubes 5 rfl) (tgt := 27) rfl (fun e => ?_) (fun e => ?_)
    · skip
      refine gW_b D_Tx_acceptsInCubes 16 10 (pc' := 41) (l' := [(0, .ref 0), (1, .int c), (2, .int (((10 * (xC T)) + c) - 48))]) (st' := [.int c]) (h' := cTx 0 T) (P := True) rfl trivial ?_
      refine gW_callS (m_isDigit c) lk_Tx_66 [] (gdec_at D_Tx_acceptsInCubes 26 rfl) (st := []) rfl rfl ⟨rfl, rfl⟩ (Nat.le_of_ble_eq_true rfl) (Nat.le_of_ble_eq_true rfl) ⟨Nat.le_of_ble_eq_true rfl, Nat.le_of_ble_eq_true rfl⟩ ⟨Nat.le_of_ble_eq_true rfl, Nat.le_of_ble_eq_true rfl⟩ (gAft_r rfl rfl (h' := cTx 0 T) (st' := [.int (bI (dig c))]) (pc' := 44) (cs' := 0) (ss' := 0) rfl rfl rfl rfl rfl ?_)
      refine gW_if_eq (gdec_at D_Tx_acceptsInCubes 27 rfl) (tgt := 54) rfl (fun f => ?_) (fun f => ?_)
      · skip
        refine gW_b D_Tx_acceptsInCubes 31 1 (pc' := 55) (l' := [(0, .ref 0), (1, .int c), (2, .int (((10 * (xC T)) + c) - 48))]) (st' := [.int 0]) (h' := cTx 0 T) (P := True) rfl trivial ?_
        rw [show aC T c = (false, T) from (show aC T c = aCn T c from (if_neg d).trans (if_pos e)).trans (if_pos f)]
        exact gW_iret (gdec_at D_Tx_acceptsInCubes 32 rfl) rfl rfl (Nat.le_of_ble_eq_true rfl) ⟨rfl, rfl⟩ (Nat.le_of_ble_eq_true rfl) (Nat.le_of_ble_eq_true rfl)
      · skip
        refine gW_b D_Tx_acceptsInCubes 28 2 (pc' := 51) (l' := [(0, .ref 0), (1, .int c), (2, .int (((10 * (xC T)) + c) - 48))]) (st' := [.int 500, .int (((10 * (xC T)) + c) - 48)]) (h' := cTx 0 T) (P := True) rfl trivial ?_
        refine gW_ic_le (gdec_at D_Tx_acceptsInCubes 30 rfl) (tgt := 56) rfl (fun g => ?_) (fun g => ?_)
        · skip
          refine gW_b D_Tx_acceptsInCubes 33 4 (pc' := 62) (l' := [(0, .ref 0), (1, .int c), (2, .int (((10 * (xC T)) + c) - 48))]) (st' := [.int 1]) (h' := cTx 0 (xCod T, xLen T, xTon T, xCub T, xDay T, xPrt T, xStg T, xT T, ((10 * (xC T)) + c) - 48, xD T)) (P := True) rfl trivial ?_
          rw [show aC T c = (true, (xCod T, xLen T, xTon T, xCub T, xDay T, xPrt T, xStg T, xT T, 10 * xC T + c - 48, xD T)) from (show aC T c = aCn T c from (if_neg d).trans (if_pos e)).trans ((if_neg f).trans (if_pos g))]
          exact gW_iret (gdec_at D_Tx_acceptsInCubes 37 rfl) rfl rfl (Nat.le_of_ble_eq_true rfl) ⟨rfl, rfl⟩ (Nat.le_of_ble_eq_true rfl) (Nat.le_of_ble_eq_true rfl)
        · skip
          refine gW_b D_Tx_acceptsInCubes 31 1 (pc' := 55) (l' := [(0, .ref 0), (1, .int c), (2, .int (((10 * (xC T)) + c) - 48))]) (st' := [.int 0]) (h' := cTx 0 T) (P := True) rfl trivial ?_
          rw [show aC T c = (false, T) from (show aC T c = aCn T c from (if_neg d).trans (if_pos e)).trans ((if_neg f).trans (if_neg g))]
          exact gW_iret (gdec_at D_Tx_acceptsInCubes 32 rfl) rfl rfl (Nat.le_of_ble_eq_true rfl) ⟨rfl, rfl⟩ (Nat.le_of_ble_eq_true rfl) (Nat.le_of_ble_eq_true rfl)
    · skip
      refine gW_b D_Tx_acceptsInCubes 6 9 (pc' := 26) (l' := [(0, .ref 0), (1, .int c)]) (st' := [.int 1]) (h' := cTx 0 (xCod T, xLen T, xTon T, xCub T, xDay T, xPrt T, 2, c - 97, xC T, xD T)) (P := True) rfl trivial ?_
      rw [show aC T c = (true, (xCod T, xLen T, xTon T, xCub T, xDay T, xPrt T, 2, c - 97, xC T, xD T)) from (if_neg d).trans (if_neg e)]
      exact gW_iret (gdec_at D_Tx_acceptsInCubes 15 rfl) rfl rfl (Nat.le_of_ble_eq_true rfl) ⟨rfl, rfl⟩ (Nat.le_of_ble_eq_true rfl) (Nat.le_of_ble_eq_true rfl)

theorem m_acceptsAt (T : gTxt) (c : Int32) (hT : txOK T) : gM K_Tx_acceptsAt { frames := 0, locals := 0, cells := 0, slots := 0 } [.ref 0, .int c] (cTx 0 T) (gD (.inl (some (.int (bI (aA T c).1)))) (cTx 0 ((aA T c).2))) := by
  refine gM_of rfl rfl (Nat.le_of_ble_eq_true rfl) (fun sc => ?_)
  refine gW_b D_Tx_acceptsAt 0 2 (pc' := 3) (l' := [(0, .ref 0), (1, .int c)]) (st' := [.int 64, .int c]) (h' := cTx 0 T) (P := True) rfl trivial ?_
  refine gW_ic_eq (gdec_at D_Tx_acceptsAt 2 rfl) (tgt := 8) rfl (fun d => ?_) (fun d => ?_)
  · skip
    refine gW_b D_Tx_acceptsAt 5 4 (pc' := 14) (l' := [(0, .ref 0), (1, .int c)]) (st' := [.int 1]) (h' := cTx 0 (xCod T, xLen T, xTon T, xCub T, xDay T, xPrt T, 3, xT T, xC T, xD T)) (P := True) rfl trivial ?_
    rw [show aA T c = (true, (xCod T, xLen T, xTon T, xCub T, xDay T, xPrt T, 3, xT T, xC T, xD T)) from if_pos d]
    exact gW_iret (gdec_at D_Tx_acceptsAt 9 rfl) rfl rfl (Nat.le_of_ble_eq_true rfl) ⟨rfl, rfl⟩ (Nat.le_of_ble_eq_true rfl) (Nat.le_of_ble_eq_true rfl)
  · skip
    refine gW_b D_Tx_acceptsAt 3 1 (pc' := 7) (l' := [(0, .ref 0), (1, .int c)]) (st' := [.int 0]) (h' := cTx 0 T) (P := True) rfl trivial ?_
    rw [show aA T c = (false, T) from if_neg d]
    exact gW_iret (gdec_at D_Tx_acceptsAt 4 rfl) rfl rfl (Nat.le_of_ble_eq_true rfl) ⟨rfl, rfl⟩ (Nat.le_of_ble_eq_true rfl) (Nat.le_of_ble_eq_true rfl)

theorem m_acceptsDayDigit (T : gTxt) (c : Int32) (hT : txOK T) : gM K_Tx_acceptsDayDigit { frames := 1, locals := 20, cells := 0, slots := 0 } [.ref 0, .int c] (cTx 0 T) (gD (.inl (some (.int (bI (aE T c).1)))) (cTx 0 ((aE T c).2))) := by
  refine gM_of rfl rfl (Nat.le_of_ble_eq_true rfl) (fun sc => ?_)
  refine gW_b D_Tx_acceptsDayDigit 0 1 (pc' := 1) (l' := [(0, .ref 0), (1, .int c)]) (st' := [.int c]) (h' := cTx 0 T) (P := True) rfl trivial ?_
  refine gW_callS (m_isDigit c) lk_Tx_66 [] (gdec_at D_Tx_acceptsDayDigit 1 rfl) (st := []) rfl rfl ⟨rfl, rfl⟩ (Nat.le_of_ble_eq_true rfl) (Nat.le_of_ble_eq_true rfl) ⟨Nat.le_of_ble_eq_true rfl, Nat.le_of_ble_eq_true rfl⟩ ⟨Nat.le_of_ble_eq_true rfl, Nat.le_of_ble_eq_true rfl⟩ (gAft_r rfl rfl (h' := cTx 0 T) (st' := [.int (bI (dig c))]) (pc' := 4) (cs' := 0) (ss' := 0) rfl rfl rfl rfl rfl ?_)
  refine gW_if_ne (gdec_at D_Tx_acceptsDayDigit 2 rfl) (tgt := 9) rfl (fun d => ?_) (fun d => ?_)
  · skip
    refine gW_b D_Tx_acceptsDayDigit 5 9 (pc' := 23) (l' := [(0, .ref 0), (1, .int c)]) (st' := [.int 1]) (h' := cTx 0 (xCod T, xLen T, xTon T, xCub T, xDay T, xPrt T, 4, xT T, xC T, c - 48)) (P := True) rfl trivial ?_
    rw [show aE T c = (true, (xCod T, xLen T, xTon T, xCub T, xDay T, xPrt T, 4, xT T, xC T, c - 48)) from if_neg d]
    exact gW_iret (gdec_at D_Tx_acceptsDayDigit 14 rfl) rfl rfl (Nat.le_of_ble_eq_true rfl) ⟨rfl, rfl⟩ (Nat.le_of_ble_eq_true rfl) (Nat.le_of_ble_eq_true rfl)
  · skip
    refine gW_b D_Tx_acceptsDayDigit 3 1 (pc' := 8) (l' := [(0, .ref 0), (1, .int c)]) (st' := [.int 0]) (h' := cTx 0 T) (P := True) rfl trivial ?_
    rw [show aE T c = (false, T) from if_pos d]
    exact gW_iret (gdec_at D_Tx_acceptsDayDigit 4 rfl) rfl rfl (Nat.le_of_ble_eq_true rfl) ⟨rfl, rfl⟩ (Nat.le_of_ble_eq_true rfl) (Nat.le_of_ble_eq_true rfl)

theorem m_keepPart (T : gTxt) (hT : txOK T) : gM K_Tx_keepPart { frames := 0, locals := 0, cells := 0, slots := 0 } [.ref 0] (cTx 0 T) (gD (.inl none) (cTx 0 (kp T))) := by
  refine gM_of rfl rfl (Nat.le_of_ble_eq_true rfl) (fun sc => ?_)
  obtain ⟨hl, hp, hg⟩ := id hT
  refine gW_b D_Tx_keepPart 0 3 (pc' := 6) (l' := [(0, .ref 0)]) (st' := [.int 12, .int (nI (xPrt T))]) (h' := cTx 0 T) (P := True) rfl trivial ?_
  refine gW_ic_ge (gdec_at D_Tx_keepPart 3 rfl) (tgt := 58) rfl (fun d => ?_) (fun d => ?_)
  · have d := (gle (gk 12) (rfl : nI (xPrt T) = nI (xPrt T)) (by omega) (by omega)).mp d
    rw [show kp T = T from if_pos d]
    exact gW_vret (gdec_at D_Tx_keepPart 31 rfl) rfl (Nat.le_of_ble_eq_true rfl) ⟨rfl, rfl⟩ (Nat.le_of_ble_eq_true rfl) (Nat.le_of_ble_eq_true rfl)
  · have d := mt (gle (gk 12) (rfl : nI (xPrt T) = nI (xPrt T)) (by omega) (by omega)).mpr d
    refine gW_b D_Tx_keepPart 4 27 (pc' := 58) (l' := [(0, .ref 0)]) (st' := []) (h' := [cO 4 [.ref 1, .int (nI (xLen T)), .ref 2, .ref 3, .ref 4, .int ((nI (xPrt T)) + 1), .int (nI (xStg T)), .int (xT T), .int (xC T), .int (xD T)], cI 60 (xCod T), cI 12 (upd (xTon T) ((nI (xPrt T)).toNatClampNeg) (xT T)), cI 12 (upd (xCub T) ((nI (xPrt T)).toNatClampNeg) (xC T)), cI 12 (upd (xDay T) ((nI (xPrt T)).toNatClampNeg) (xD T))]) (P := vp_in (nI (xPrt T)) 12 ∧ vp_in (nI (xPrt T)) 12 ∧ vp_in (nI (xPrt T)) 12 ∧ True) rfl ⟨(gvin (rfl : nI (xPrt T) = nI (xPrt T)) (by omega) (by omega)), (gvin (rfl : nI (xPrt T) = nI (xPrt T)) (by omega) (by omega)), (gvin (rfl : nI (xPrt T) = nI (xPrt T)) (by omega) (by omega)), trivial⟩ ?_
    rw [show (nI (xPrt T)).toNatClampNeg = (xPrt T) from gclp (rfl : nI (xPrt T) = nI (xPrt T)) (by omega)]
    rw [show ((nI (xPrt T)) + 1 : Int32) = nI ((xPrt T) + 1) from (gadd (rfl : nI (xPrt T) = nI (xPrt T)) (gk 1))]
    rw [show kp T = _ from if_neg d]
    exact gW_vret (gdec_at D_Tx_keepPart 31 rfl) rfl (Nat.le_of_ble_eq_true rfl) ⟨rfl, rfl⟩ (Nat.le_of_ble_eq_true rfl) (Nat.le_of_ble_eq_true rfl)

theorem m_acceptsInDay (T : gTxt) (c : Int32) (hT : txOK T) : gM K_Tx_acceptsInDay { frames := 1, locals := 20, cells := 0, slots := 0 } [.ref 0, .int c] (cTx 0 T) (gD (.inl (some (.int (bI (aD T c).1)))) (cTx 0 ((aD T c).2))) := by
  refine gM_of rfl rfl (Nat.le_of_ble_eq_true rfl) (fun sc => ?_)
  refine gW_b D_Tx_acceptsInDay 0 2 (pc' := 3) (l' := [(0, .ref 0), (1, .int c)]) (st' := [.int 59, .int c]) (h' := cTx 0 T) (P := True) rfl trivial ?_
  refine gW_ic_ne (gdec_at D_Tx_acceptsInDay 2 rfl) (tgt := 17) rfl (fun d => ?_) (fun d => ?_)
  · skip
    refine gW_b D_Tx_acceptsInDay 10 10 (pc' := 31) (l' := [(0, .ref 0), (1, .int c), (2, .int (((10 * (xD T)) + c) - 48))]) (st' := [.int c]) (h' := cTx 0 T) (P := True) rfl trivial ?_
    refine gW_callS (m_isDigit c) lk_Tx_66 [] (gdec_at D_Tx_acceptsInDay 20 rfl) (st := []) rfl rfl ⟨rfl, rfl⟩ (Nat.le_of_ble_eq_true rfl) (Nat.le_of_ble_eq_true rfl) ⟨Nat.le_of_ble_eq_true rfl, Nat.le_of_ble_eq_true rfl⟩ ⟨Nat.le_of_ble_eq_true rfl, Nat.le_of_ble_eq_true rfl⟩ (gAft_r rfl rfl (h' := cTx 0 T) (st' := [.int (bI (dig c))]) (pc' := 34) (cs' := 0) (ss' := 0) rfl rfl rfl rfl rfl ?_)
    refine gW_if_eq (gdec_at D_Tx_acceptsInDay 21 rfl) (tgt := 51) rfl (fun e => ?_) (fun e => ?_)
    · skip
      refine gW_b D_Tx_acceptsInDay 28 1 (pc' := 52) (l' := [(0, .ref 0), (1, .int c), (2, .int (((10 * (xD T)) + c) - 48))]) (st' := [.int 0]) (h' := cTx 0 T) (P := True) rfl trivial ?_
      rw [show aD T c = (false, T) from (if_neg d).trans (if_pos e)]
      exact gW_iret (gdec_at D_Tx_acceptsInDay 29 rfl) rfl rfl (Nat.le_of_ble_eq_true rfl) ⟨rfl, rfl⟩ (Nat.le_of_ble_eq_true rfl) (Nat.le_of_ble_eq_true rfl)
    · skip
      refine gW_b D_Tx_acceptsInDay 22 2 (pc' := 41) (l' := [(0, .ref 0), (1, .int c), (2, .int (((10 * (xD T)) + c) - 48))]) (st' := [.int (xD T)]) (h' := cTx 0 T) (P := True) rfl trivial ?_
      refine gW_if_eq (gdec_at D_Tx_acceptsInDay 24 rfl) (tgt := 51) rfl (fun f => ?_) (fun f => ?_)
      · skip
        refine gW_b D_Tx_acceptsInDay 28 1 (pc' := 52) (l' := [(0, .ref 0), (1, .int c), (2, .int (((10 * (xD T)) + c) - 48))]) (st' := [.int 0]) (h' := cTx 0 T) (P := True) rfl trivial ?_
        rw [show aD T c = (false, T) from (if_neg d).trans ((if_neg e).trans (if_pos f))]
        exact gW_iret (gdec_at D_Tx_acceptsInDay 29 rfl) rfl rfl (Nat.le_of_ble_eq_true rfl) ⟨rfl, rfl⟩ (Nat.le_of_ble_eq_true rfl) (Nat.le_of_ble_eq_true rfl)
      · skip
        refine gW_b D_Tx_acceptsInDay 25 2 (pc' := 48) (l' := [(0, .ref 0), (1, .int c), (2, .int (((10 * (xD T)) + c) - 48))]) (st' := [.int 999, .int (((10 * (xD T)) + c) - 48)]) (h' := cTx 0 T) (P := True) rfl trivial ?_
        refine gW_ic_le (gdec_at D_Tx_acceptsInDay 27 rfl) (tgt := 53) rfl (fun g => ?_) (fun g => ?_)
        · skip
          refine gW_b D_Tx_acceptsInDay 30 4 (pc' := 59) (l' := [(0, .ref 0), (1, .int c), (2, .int (((10 * (xD T)) + c) - 48))]) (st' := [.int 1]) (h' := cTx 0 (xCod T, xLen T, xTon T, xCub T, xDay T, xPrt T, xStg T, xT T, xC T, ((10 * (xD T)) + c) - 48)) (P := True) rfl trivial ?_
          rw [show aD T c = (true, (xCod T, xLen T, xTon T, xCub T, xDay T, xPrt T, xStg T, xT T, xC T, 10 * xD T + c - 48)) from (if_neg d).trans ((if_neg e).trans ((if_neg f).trans (if_pos g)))]
          exact gW_iret (gdec_at D_Tx_acceptsInDay 34 rfl) rfl rfl (Nat.le_of_ble_eq_true rfl) ⟨rfl, rfl⟩ (Nat.le_of_ble_eq_true rfl) (Nat.le_of_ble_eq_true rfl)
        · skip
          refine gW_b D_Tx_acceptsInDay 28 1 (pc' := 52) (l' := [(0, .ref 0), (1, .int c), (2, .int (((10 * (xD T)) + c) - 48))]) (st' := [.int 0]) (h' := cTx 0 T) (P := True) rfl trivial ?_
          rw [show aD T c = (false, T) from (if_neg d).trans ((if_neg e).trans ((if_neg f).trans (if_neg g)))]
          exact gW_iret (gdec_at D_Tx_acceptsInDay 29 rfl) rfl rfl (Nat.le_of_ble_eq_true rfl) ⟨rfl, rfl⟩ (Nat.le_of_ble_eq_true rfl) (Nat.le_of_ble_eq_true rfl)
  · skip
    refine gW_b D_Tx_acceptsInDay 3 1 (pc' := 7) (l' := [(0, .ref 0), (1, .int c)]) (st' := [.ref 0]) (h' := cTx 0 T) (P := True) rfl trivial ?_
    refine gW_callV (m_keepPart T (by assumption)) lk_Tx_42 [0, 1, 2, 3, 4] (gdec_at D_Tx_acceptsInDay 4 rfl) (st := []) rfl rfl ⟨rfl, rfl⟩ (Nat.le_of_ble_eq_true rfl) rfl (by decide) rfl (Nat.le_of_ble_eq_true rfl) ⟨Nat.le_of_ble_eq_true rfl, Nat.le_of_ble_eq_true rfl⟩ ⟨Nat.le_of_ble_eq_true rfl, Nat.le_of_ble_eq_true rfl⟩ (gAft_r rfl rfl (h' := cTx 0 (kp T)) (st' := []) (pc' := 10) (cs' := 0) (ss' := 0) rfl rfl rfl rfl rfl ?_)
    refine gW_b D_Tx_acceptsInDay 5 4 (pc' := 16) (l' := [(0, .ref 0), (1, .int c)]) (st' := [.int 1]) (h' := cTx 0 (xCod (kp T), xLen (kp T), xTon (kp T), xCub (kp T), xDay (kp T), xPrt (kp T), 0, xT (kp T), xC (kp T), xD (kp T))) (P := True) rfl trivial ?_
    rw [show aD T c = (true, stg0 (kp T)) from if_pos d]
    exact gW_iret (gdec_at D_Tx_acceptsInDay 9 rfl) rfl rfl (Nat.le_of_ble_eq_true rfl) ⟨rfl, rfl⟩ (Nat.le_of_ble_eq_true rfl) (Nat.le_of_ble_eq_true rfl)

theorem m_accepts (T : gTxt) (c : Int32) (hT : txOK T) : gM K_Tx_accepts { frames := 2, locals := 42, cells := 0, slots := 0 } [.ref 0, .int c] (cTx 0 T) (gD (.inl (some (.int (bI (acc T c).1)))) (cTx 0 ((acc T c).2))) := by
  refine gM_of rfl rfl (Nat.le_of_ble_eq_true rfl) (fun sc => ?_)
  obtain ⟨hl, hp, hg⟩ := id hT
  refine gW_b D_Tx_accepts 0 2 (pc' := 4) (l' := [(0, .ref 0), (1, .int c)]) (st' := [.int (nI (xStg T))]) (h' := cTx 0 T) (P := True) rfl trivial ?_
  by_cases h0 : xStg T = 0
  · skip
    refine gW_tin S_Tx_accepts_4 (tgt := 36) (by rw [h0]; decide) (by rw [h0]; decide) (off := 32) (by rw [h0]; decide) rfl ?_
    refine gW_b D_Tx_accepts 2 2 (pc' := 38) (l' := [(0, .ref 0), (1, .int c)]) (st' := [.int c, .ref 0]) (h' := cTx 0 T) (P := True) rfl trivial ?_
    refine gW_callV (m_acceptsFirstDigit T c (by assumption)) lk_Tx_45 [0, 1, 2, 3, 4] (gdec_at D_Tx_accepts 4 rfl) (st := []) rfl rfl ⟨rfl, rfl⟩ (Nat.le_of_ble_eq_true rfl) rfl (by decide) rfl (Nat.le_of_ble_eq_true rfl) ⟨Nat.le_of_ble_eq_true rfl, Nat.le_of_ble_eq_true rfl⟩ ⟨Nat.le_of_ble_eq_true rfl, Nat.le_of_ble_eq_true rfl⟩ (gAft_r rfl rfl (h' := cTx 0 ((aF T c).2)) (st' := [.int (bI (aF T c).1)]) (pc' := 41) (cs' := 0) (ss' := 0) rfl rfl rfl rfl rfl ?_)
    rw [show acc T c = aF T c from if_pos h0]
    exact gW_iret (gdec_at D_Tx_accepts 5 rfl) rfl (nar_b _) (Nat.le_of_ble_eq_true rfl) ⟨rfl, rfl⟩ (Nat.le_of_ble_eq_true rfl) (Nat.le_of_ble_eq_true rfl)
  by_cases h1 : xStg T = 1
  · skip
    refine gW_tin S_Tx_accepts_4 (tgt := 42) (by rw [h1]; decide) (by rw [h1]; decide) (off := 38) (by rw [h1]; decide) rfl ?_
    refine gW_b D_Tx_accepts 6 2 (pc' := 44) (l' := [(0, .ref 0), (1, .int c)]) (st' := [.int c, .ref 0]) (h' := cTx 0 T) (P := True) rfl trivial ?_
    refine gW_callV (m_acceptsInCubes T c (by assumption)) lk_Tx_48 [0, 1, 2, 3, 4] (gdec_at D_Tx_accepts 8 rfl) (st := []) rfl rfl ⟨rfl, rfl⟩ (Nat.le_of_ble_eq_true rfl) rfl (by decide) rfl (Nat.le_of_ble_eq_true rfl) ⟨Nat.le_of_ble_eq_true rfl, Nat.le_of_ble_eq_true rfl⟩ ⟨Nat.le_of_ble_eq_true rfl, Nat.le_of_ble_eq_true rfl⟩ (gAft_r rfl rfl (h' := cTx 0 ((aC T c).2)) (st' := [.int (bI (aC T c).1)]) (pc' := 47) (cs' := 0) (ss' := 0) rfl rfl rfl rfl rfl ?_)
    rw [show acc T c = aC T c from (if_neg h0).trans (if_pos h1)]
    exact gW_iret (gdec_at D_Tx_accepts 9 rfl) rfl (nar_b _) (Nat.le_of_ble_eq_true rfl) ⟨rfl, rfl⟩ (Nat.le_of_ble_eq_true rfl) (Nat.le_of_ble_eq_true rfl)
  by_cases h2 : xStg T = 2
  · skip
    refine gW_tin S_Tx_accepts_4 (tgt := 48) (by rw [h2]; decide) (by rw [h2]; decide) (off := 44) (by rw [h2]; decide) rfl ?_
    refine gW_b D_Tx_accepts 10 2 (pc' := 50) (l' := [(0, .ref 0), (1, .int c)]) (st' := [.int c, .ref 0]) (h' := cTx 0 T) (P := True) rfl trivial ?_
    refine gW_callV (m_acceptsAt T c (by assumption)) lk_Tx_51 [0, 1, 2, 3, 4] (gdec_at D_Tx_accepts 12 rfl) (st := []) rfl rfl ⟨rfl, rfl⟩ (Nat.le_of_ble_eq_true rfl) rfl (by decide) rfl (Nat.le_of_ble_eq_true rfl) ⟨Nat.le_of_ble_eq_true rfl, Nat.le_of_ble_eq_true rfl⟩ ⟨Nat.le_of_ble_eq_true rfl, Nat.le_of_ble_eq_true rfl⟩ (gAft_r rfl rfl (h' := cTx 0 ((aA T c).2)) (st' := [.int (bI (aA T c).1)]) (pc' := 53) (cs' := 0) (ss' := 0) rfl rfl rfl rfl rfl ?_)
    rw [show acc T c = aA T c from (if_neg h0).trans ((if_neg h1).trans (if_pos h2))]
    exact gW_iret (gdec_at D_Tx_accepts 13 rfl) rfl (nar_b _) (Nat.le_of_ble_eq_true rfl) ⟨rfl, rfl⟩ (Nat.le_of_ble_eq_true rfl) (Nat.le_of_ble_eq_true rfl)
  by_cases h3 : xStg T = 3
  · skip
    refine gW_tin S_Tx_accepts_4 (tgt := 54) (by rw [h3]; decide) (by rw [h3]; decide) (off := 50) (by rw [h3]; decide) rfl ?_
    refine gW_b D_Tx_accepts 14 2 (pc' := 56) (l' := [(0, .ref 0), (1, .int c)]) (st' := [.int c, .ref 0]) (h' := cTx 0 T) (P := True) rfl trivial ?_
    refine gW_callV (m_acceptsDayDigit T c (by assumption)) lk_Tx_54 [0, 1, 2, 3, 4] (gdec_at D_Tx_accepts 16 rfl) (st := []) rfl rfl ⟨rfl, rfl⟩ (Nat.le_of_ble_eq_true rfl) rfl (by decide) rfl (Nat.le_of_ble_eq_true rfl) ⟨Nat.le_of_ble_eq_true rfl, Nat.le_of_ble_eq_true rfl⟩ ⟨Nat.le_of_ble_eq_true rfl, Nat.le_of_ble_eq_true rfl⟩ (gAft_r rfl rfl (h' := cTx 0 ((aE T c).2)) (st' := [.int (bI (aE T c).1)]) (pc' := 59) (cs' := 0) (ss' := 0) rfl rfl rfl rfl rfl ?_)
    rw [show acc T c = aE T c from (if_neg h0).trans ((if_neg h1).trans ((if_neg h2).trans (if_pos h3)))]
    exact gW_iret (gdec_at D_Tx_accepts 17 rfl) rfl (nar_b _) (Nat.le_of_ble_eq_true rfl) ⟨rfl, rfl⟩ (Nat.le_of_ble_eq_true rfl) (Nat.le_of_ble_eq_true rfl)
  refine gW_tout S_Tx_accepts_4 (tgt := 60) (Or.inr (by rw [nI_toInt (by omega)]; omega)) rfl ?_
  refine gW_b D_Tx_accepts 18 2 (pc' := 62) (l' := [(0, .ref 0), (1, .int c)]) (st' := [.int c, .ref 0]) (h' := cTx 0 T) (P := True) rfl trivial ?_
  refine gW_callV (m_acceptsInDay T c (by assumption)) lk_Tx_57 [0, 1, 2, 3, 4] (gdec_at D_Tx_accepts 20 rfl) (st := []) rfl rfl ⟨rfl, rfl⟩ (Nat.le_of_ble_eq_true rfl) rfl (by decide) rfl (Nat.le_of_ble_eq_true rfl) ⟨Nat.le_of_ble_eq_true rfl, Nat.le_of_ble_eq_true rfl⟩ ⟨Nat.le_of_ble_eq_true rfl, Nat.le_of_ble_eq_true rfl⟩ (gAft_r rfl rfl (h' := cTx 0 ((aD T c).2)) (st' := [.int (bI (aD T c).1)]) (pc' := 65) (cs' := 0) (ss' := 0) rfl rfl rfl rfl rfl ?_)
  rw [show acc T c = aD T c from (if_neg h0).trans ((if_neg h1).trans ((if_neg h2).trans ((if_neg h3).trans (rfl))))]
  exact gW_iret (gdec_at D_Tx_accepts 21 rfl) rfl (nar_b _) (Nat.le_of_ble_eq_true rfl) ⟨rfl, rfl⟩ (Nat.le_of_ble_eq_true rfl) (Nat.le_of_ble_eq_true rfl)
def rdR (n : Nat) (i : Nat) (T : gTxt) : Nat × gTxt := match n with
  | 0 => (i, T)
  | n + 1 => if bI (acc T (xCod T i)).1 = 0 then (i, (acc T (xCod T i)).2) else rdR n (i + 1) (acc T (xCod T i)).2
def rst (T : gTxt) : gTxt := (xCod T, xLen T, xTon T, xCub T, xDay T, 0, 0, xT T, xC T, xD T)
/-- the first syntax error's place, or the length; and what was read -/
def rdT (T : gTxt) : Nat × gTxt := rdR (xLen T) 0 (rst T)
theorem rdR_ok : ∀ (n i : Nat) (T : gTxt), txOK T → i + n = xLen T → txOK (rdR n i T).2 ∧ xLen (rdR n i T).2 = xLen T ∧ xCod (rdR n i T).2 = xCod T ∧ (rdR n i T).1 ≤ xLen T
  | 0, i, T, h, hi => ⟨h, rfl, rfl, by show i ≤ xLen T; omega⟩
  | n + 1, i, T, h, hi => by
    obtain ⟨a1, a2, a3⟩ := acc_ok (xCod T i) h
    unfold rdR
    split
    · exact ⟨a1, a2, a3, by show i ≤ xLen T; omega⟩
    · obtain ⟨b1, b2, b3, b4⟩ := rdR_ok n (i + 1) (acc T (xCod T i)).2 a1 (by rw [a2]; omega)
      exact ⟨b1, b2.trans a2, b3.trans a3, by rw [a2] at b4; exact b4⟩
theorem rdT_ok {T : gTxt} (h : txOK T) : txOK (rdT T).2 ∧ xLen (rdT T).2 = xLen T ∧ xCod (rdT T).2 = xCod T ∧ (rdT T).1 ≤ xLen T := rdR_ok (xLen T) 0 (rst T) ⟨h.1, Nat.zero_le _, Nat.zero_le _⟩ (Nat.zero_add _)
theorem l_read {sc : Nat × (Nat → Int32)} {n0 : Nat} (hn0 : n0 ≤ 5) : ∀ (n i : Nat) (T : gTxt), txOK T → i + n = xLen T → gW K_Tx_read sc { frames := 3, locals := 63, cells := 0, slots := 0 } n0 (gD (.inl (some (.int (nI (rdR n i T).1)))) (cTx 0 (rdR n i T).2)) 0 0 12 [(0, .ref 0), (1, .int (nI i))] [] (cTx 0 T) := by
  intro n
  induction n with
  | zero =>
    intro i T hT hi
    obtain ⟨hl, hp, hg⟩ := id hT
    refine gW_b D_Tx_read 8 3 (pc' := 17) (l' := [(0, .ref 0), (1, .int (nI i))]) (st' := [.int (nI (xLen T)), .int (nI i)]) (h' := cTx 0 T) (P := True) rfl trivial ?_
    refine gW_ic_ge (gdec_at D_Tx_read 11 rfl) (tgt := 47) rfl (fun _ => ?_) (fun c => absurd ((gle (rfl : nI (xLen T) = nI (xLen T)) (rfl : nI i = nI i) (by omega) (by omega)).mpr (by omega)) c)
    refine gW_b D_Tx_read 26 2 (pc' := 51) (l' := [(0, .ref 0), (1, .int (nI i))]) (st' := [.int (nI (xLen T))]) (h' := cTx 0 T) (P := True) rfl trivial ?_
    rw [show rdR 0 i T = (xLen T, T) from by rw [show xLen T = i by omega]; rfl]
    exact gW_iret (gdec_at D_Tx_read 28 rfl) rfl rfl hn0 ⟨rfl, rfl⟩ (Nat.le_of_ble_eq_true rfl) (Nat.le_of_ble_eq_true rfl)
  | succ n ih =>
    intro i T hT hi
    obtain ⟨hl, hp, hg⟩ := id hT
    refine gW_b D_Tx_read 8 3 (pc' := 17) (l' := [(0, .ref 0), (1, .int (nI i))]) (st' := [.int (nI (xLen T)), .int (nI i)]) (h' := cTx 0 T) (P := True) rfl trivial ?_
    refine gW_ic_ge (gdec_at D_Tx_read 11 rfl) (tgt := 47) rfl (fun c => absurd c (mt (gle (rfl : nI (xLen T) = nI (xLen T)) (rfl : nI i = nI i) (by omega) (by omega)).mp (by omega))) (fun _ => ?_)
    refine gW_b D_Tx_read 12 2 (pc' := 23) (l' := [(0, .ref 0), (1, .int (nI i))]) (st' := [.int 60, .int (nI i)]) (h' := cTx 0 T) (P := True) rfl trivial ?_
    refine gW_ic_ge (gdec_at D_Tx_read 14 rfl) (tgt := 47) rfl (fun c => absurd c (mt (gle (gk 60) (rfl : nI i = nI i) (by omega) (by omega)).mp (by omega))) (fun _ => ?_)
    refine gW_b D_Tx_read 15 5 (pc' := 33) (l' := [(0, .ref 0), (1, .int (nI i))]) (st' := [.int ((xCod T) ((nI i).toNatClampNeg)), .ref 0]) (h' := cTx 0 T) (P := vp_in (nI i) 60 ∧ True) rfl ⟨(gvin (rfl : nI i = nI i) (by omega) (by omega)), trivial⟩ ?_
    rw [show (nI i).toNatClampNeg = i from gclp (rfl : nI i = nI i) (by omega)]
    refine gW_callV (m_accepts T ((xCod T) (i)) (by assumption)) lk_Tx_34 [0, 1, 2, 3, 4] (gdec_at D_Tx_read 20 rfl) (st := []) rfl rfl ⟨rfl, rfl⟩ (Nat.le_of_ble_eq_true rfl) rfl (by decide) rfl (Nat.le_of_ble_eq_true rfl) ⟨Nat.le_of_ble_eq_true rfl, Nat.le_of_ble_eq_true rfl⟩ ⟨Nat.le_of_ble_eq_true rfl, Nat.le_of_ble_eq_true rfl⟩ (gAft_r rfl rfl (h' := cTx 0 ((acc T ((xCod T) (i))).2)) (st' := [.int (bI (acc T ((xCod T) (i))).1)]) (pc' := 36) (cs' := 0) (ss' := 0) rfl rfl rfl rfl rfl ?_)
    refine gW_if_ne (gdec_at D_Tx_read 21 rfl) (tgt := 41) rfl (fun d => ?_) (fun d => ?_)
    · skip
      obtain ⟨a1, a2, a3⟩ := acc_ok (xCod T i) hT
      refine gW_b D_Tx_read 24 2 (pc' := 12) (l' := [(0, .ref 0), (1, .int ((nI i) + 1))]) (st' := []) (h' := cTx 0 ((acc T ((xCod T) (i))).2)) (P := True) rfl trivial ?_
      rw [show ((nI i) + 1 : Int32) = nI (i + 1) from (gadd (rfl : nI i = nI i) (gk 1))]
      rw [show rdR (n + 1) i T = rdR n (i + 1) (acc T (xCod T i)).2 from if_neg d]
      exact ih (i + 1) _ a1 (by rw [a2]; omega)
    · skip
      refine gW_b D_Tx_read 22 1 (pc' := 40) (l' := [(0, .ref 0), (1, .int (nI i))]) (st' := [.int (nI i)]) (h' := cTx 0 ((acc T ((xCod T) (i))).2)) (P := True) rfl trivial ?_
      rw [show rdR (n + 1) i T = (i, (acc T (xCod T i)).2) from if_pos d]
      exact gW_iret (gdec_at D_Tx_read 23 rfl) rfl rfl hn0 ⟨rfl, rfl⟩ (Nat.le_of_ble_eq_true rfl) (Nat.le_of_ble_eq_true rfl)
theorem m_read (T : gTxt) (hT : txOK T) : gM K_Tx_read { frames := 3, locals := 63, cells := 0, slots := 0 } [.ref 0] (cTx 0 T) (gD (.inl (some (.int (nI ((rdT T).1))))) (cTx 0 ((rdT T).2))) := by
  refine gM_of rfl rfl (Nat.le_of_ble_eq_true rfl) (fun sc => ?_)
  obtain ⟨hl, hp, hg⟩ := id hT
  refine gW_b D_Tx_read 0 8 (pc' := 12) (l' := [(0, .ref 0), (1, .int 0)]) (st' := []) (h' := cTx 0 (xCod T, xLen T, xTon T, xCub T, xDay T, 0, 0, xT T, xC T, xD T)) (P := True) rfl trivial ?_
  exact l_read (Nat.le_refl _) (xLen T) 0 (rst T) ⟨hl, Nat.zero_le _, Nat.zero_le _⟩ (Nat.zero_add _)
def adT (T : gTxt) (v : Int32) : gTxt := (upd (xCod T) (xLen T) v, xLen T + 1, T.2.2)
def erT (T : gTxt) : gTxt := (xCod T, 0, T.2.2)

theorem m_Txadd (T : gTxt) (v : Int32) (h : xLen T < 60) : gM K_Tx_add { frames := 0, locals := 0, cells := 0, slots := 0 } [.ref 0, .int v] (cTx 0 T) (gD (.inl none) (cTx 0 (adT T v))) := by
  refine gM_of rfl rfl (Nat.le_of_ble_eq_true rfl) (fun sc => ?_)
  refine gW_b D_Tx_add 0 3 (pc' := 6) (l' := [(0, .ref 0), (1, .int v)]) (st' := [.int 60, .int (nI (xLen T))]) (h' := cTx 0 T) (P := True) rfl trivial ?_
  refine gW_ic_ge (gdec_at D_Tx_add 3 rfl) (tgt := 29) rfl (fun c => absurd c (mt (gle (gk 60) (rfl : nI (xLen T) = nI (xLen T)) (by omega) (by omega)).mp (by omega))) (fun _ => ?_)
  refine gW_b D_Tx_add 4 12 (pc' := 29) (l' := [(0, .ref 0), (1, .int v)]) (st' := []) (h' := [cO 4 [.ref 1, .int ((nI (xLen T)) + 1), .ref 2, .ref 3, .ref 4, .int (nI (xPrt T)), .int (nI (xStg T)), .int (xT T), .int (xC T), .int (xD T)], cI 60 (upd (xCod T) ((nI (xLen T)).toNatClampNeg) v), cI 12 (xTon T), cI 12 (xCub T), cI 12 (xDay T)]) (P := vp_in (nI (xLen T)) 60 ∧ True) rfl ⟨(gvin (rfl : nI (xLen T) = nI (xLen T)) (by omega) (by omega)), trivial⟩ ?_
  rw [show (nI (xLen T)).toNatClampNeg = (xLen T) from gclp (rfl : nI (xLen T) = nI (xLen T)) (by omega)]
  rw [show ((nI (xLen T)) + 1 : Int32) = nI ((xLen T) + 1) from (gadd (rfl : nI (xLen T) = nI (xLen T)) (gk 1))]
  exact gW_vret (gdec_at D_Tx_add 16 rfl) rfl (Nat.le_of_ble_eq_true rfl) ⟨rfl, rfl⟩ (Nat.le_of_ble_eq_true rfl) (Nat.le_of_ble_eq_true rfl)

theorem m_erase (T : gTxt) : gM K_Tx_erase { frames := 0, locals := 0, cells := 0, slots := 0 } [.ref 0] (cTx 0 T) (gD (.inl none) (cTx 0 (erT T))) := by
  refine gM_of rfl rfl (Nat.le_of_ble_eq_true rfl) (fun sc => ?_)
  refine gW_b D_Tx_erase 0 3 (pc' := 5) (l' := [(0, .ref 0)]) (st' := []) (h' := cTx 0 (xCod T, 0, xTon T, xCub T, xDay T, xPrt T, xStg T, xT T, xC T, xD T)) (P := True) rfl trivial ?_
  exact gW_vret (gdec_at D_Tx_erase 3 rfl) rfl (Nat.le_of_ble_eq_true rfl) ⟨rfl, rfl⟩ (Nat.le_of_ble_eq_true rfl) (Nat.le_of_ble_eq_true rfl)
def rsT (T : gTxt) : Bool × gTxt := if (rdT T).1 < xLen T then (false, (rdT T).2) else if xStg (rdT T).2 = 4 then (true, kp (rdT T).2) else (false, (rdT T).2)

theorem m_readSections (T : gTxt) (hT : txOK T) : gM K_Tx_readSections { frames := 4, locals := 84, cells := 0, slots := 0 } [.ref 0] (cTx 0 T) (gD (.inl (some (.int (bI (rsT T).1)))) (cTx 0 ((rsT T).2))) := by
  refine gM_of rfl rfl (Nat.le_of_ble_eq_true rfl) (fun sc => ?_)
  obtain ⟨h1, h2, h3, h4⟩ := rdT_ok hT
  obtain ⟨k1, k2, k3⟩ := id h1
  have k4 := hT.1
  refine gW_b D_Tx_readSections 0 1 (pc' := 1) (l' := [(0, .ref 0)]) (st' := [.ref 0]) (h' := cTx 0 T) (P := True) rfl trivial ?_
  refine gW_callV (m_read T (by assumption)) lk_Tx_38 [0, 1, 2, 3, 4] (gdec_at D_Tx_readSections 1 rfl) (st := []) rfl rfl ⟨rfl, rfl⟩ (Nat.le_of_ble_eq_true rfl) rfl (by decide) rfl (Nat.le_of_ble_eq_true rfl) ⟨Nat.le_of_ble_eq_true rfl, Nat.le_of_ble_eq_true rfl⟩ ⟨Nat.le_of_ble_eq_true rfl, Nat.le_of_ble_eq_true rfl⟩ (gAft_r rfl rfl (h' := cTx 0 ((rdT T).2)) (st' := [.int (nI ((rdT T).1))]) (pc' := 4) (cs' := 0) (ss' := 0) rfl rfl rfl rfl rfl ?_)
  refine gW_b D_Tx_readSections 2 2 (pc' := 8) (l' := [(0, .ref 0)]) (st' := [.int (nI (xLen ((rdT T).2))), .int (nI ((rdT T).1))]) (h' := cTx 0 ((rdT T).2)) (P := True) rfl trivial ?_
  refine gW_ic_lt (gdec_at D_Tx_readSections 4 rfl) (tgt := 19) rfl (fun d => ?_) (fun d => ?_)
  · have d := (glt (rfl : nI ((rdT T).1) = nI ((rdT T).1)) (rfl : nI (xLen ((rdT T).2)) = nI (xLen ((rdT T).2))) (by omega) (by omega)).mp d
    refine gW_b D_Tx_readSections 9 1 (pc' := 20) (l' := [(0, .ref 0)]) (st' := [.int 0]) (h' := cTx 0 ((rdT T).2)) (P := True) rfl trivial ?_
    rw [show rsT T = (false, (rdT T).2) from if_pos (by omega)]
    exact gW_iret (gdec_at D_Tx_readSections 10 rfl) rfl rfl (Nat.le_of_ble_eq_true rfl) ⟨rfl, rfl⟩ (Nat.le_of_ble_eq_true rfl) (Nat.le_of_ble_eq_true rfl)
  · have d := mt (glt (rfl : nI ((rdT T).1) = nI ((rdT T).1)) (rfl : nI (xLen ((rdT T).2)) = nI (xLen ((rdT T).2))) (by omega) (by omega)).mpr d
    have d2 : ¬ (rdT T).1 < xLen T := by omega
    refine gW_b D_Tx_readSections 5 3 (pc' := 16) (l' := [(0, .ref 0)]) (st' := [.int 4, .int (nI (xStg ((rdT T).2)))]) (h' := cTx 0 ((rdT T).2)) (P := True) rfl trivial ?_
    refine gW_ic_eq (gdec_at D_Tx_readSections 8 rfl) (tgt := 21) rfl (fun e => ?_) (fun e => ?_)
    · have e := (geq (rfl : nI (xStg ((rdT T).2)) = nI (xStg ((rdT T).2))) (gk 4) (by omega) (by omega)).mp e
      refine gW_b D_Tx_readSections 11 1 (pc' := 22) (l' := [(0, .ref 0)]) (st' := [.ref 0]) (h' := cTx 0 ((rdT T).2)) (P := True) rfl trivial ?_
      refine gW_callV (m_keepPart ((rdT T).2) (by assumption)) lk_Tx_42 [0, 1, 2, 3, 4] (gdec_at D_Tx_readSections 12 rfl) (st := []) rfl rfl ⟨rfl, rfl⟩ (Nat.le_of_ble_eq_true rfl) rfl (by decide) rfl (Nat.le_of_ble_eq_true rfl) ⟨Nat.le_of_ble_eq_true rfl, Nat.le_of_ble_eq_true rfl⟩ ⟨Nat.le_of_ble_eq_true rfl, Nat.le_of_ble_eq_true rfl⟩ (gAft_r rfl rfl (h' := cTx 0 (kp ((rdT T).2))) (st' := []) (pc' := 25) (cs' := 0) (ss' := 0) rfl rfl rfl rfl rfl ?_)
      refine gW_b D_Tx_readSections 13 1 (pc' := 26) (l' := [(0, .ref 0)]) (st' := [.int 1]) (h' := cTx 0 (kp ((rdT T).2))) (P := True) rfl trivial ?_
      rw [show rsT T = (true, kp (rdT T).2) from (if_neg d2).trans (if_pos e)]
      exact gW_iret (gdec_at D_Tx_readSections 14 rfl) rfl rfl (Nat.le_of_ble_eq_true rfl) ⟨rfl, rfl⟩ (Nat.le_of_ble_eq_true rfl) (Nat.le_of_ble_eq_true rfl)
    · have e := mt (geq (rfl : nI (xStg ((rdT T).2)) = nI (xStg ((rdT T).2))) (gk 4) (by omega) (by omega)).mpr e
      refine gW_b D_Tx_readSections 9 1 (pc' := 20) (l' := [(0, .ref 0)]) (st' := [.int 0]) (h' := cTx 0 ((rdT T).2)) (P := True) rfl trivial ?_
      rw [show rsT T = (false, (rdT T).2) from (if_neg d2).trans (if_neg e)]
      exact gW_iret (gdec_at D_Tx_readSections 10 rfl) rfl rfl (Nat.le_of_ble_eq_true rfl) ⟨rfl, rfl⟩ (Nat.le_of_ble_eq_true rfl) (Nat.le_of_ble_eq_true rfl)
end
section
/-! calls over large heaps: the callee's cells are one or two stretches of the caller's -/
def gseg (h : gH) (a k : Nat) (es : List gC) : gH := h.take a ++ (es.take k ++ h.drop (a + k))
def gseg2 (h : gH) (a k b m : Nat) (es : List gC) : gH := gseg (gseg h a k es) b m (es.drop k)
abbrev gps (a k b m : Nat) : List Nat := List.range' a k ++ List.range' b m
theorem gseg_step {h : gH} {a k : Nat} {e : gC} {es : List gC} (hl : a + (k + 1) ≤ h.length) : gseg (h.set a e) (a + 1) k es = gseg h a (k + 1) (e :: es) := by
  unfold gseg
  have ha : a < h.length := by omega
  have h1 : (h.set a e).take (a + 1) = h.take a ++ [e] := by
    rw [List.take_succ, List.take_set_of_le (Nat.le_refl a)]
    rw [List.getElem?_set_self ha]
    rfl
  have h2 : (h.set a e).drop (a + 1 + k) = h.drop (a + (k + 1)) := by
    rw [show a + 1 + k = a + (k + 1) by omega, List.drop_set_of_lt (by omega)]
  rw [h1, h2, List.append_assoc]
  rfl
theorem gsets_seg : ∀ (k a : Nat) (h : gH) (es : List gC) (ps : List Nat), es.length = k + ps.length → a + k ≤ h.length → gsets h (List.range' a k ++ ps) es = gsets (gseg h a k es) ps (es.drop k)
  | 0, a, h, es, ps, _, _ => by
    have : gseg h a 0 es = h := by
      unfold gseg
      rw [List.take_zero, Nat.add_zero, List.nil_append, List.take_append_drop]
    rw [this]
    rfl
  | k + 1, a, h, [], ps, he, _ => by simp at he; omega
  | k + 1, a, h, e :: es, ps, he, hl => by
    have he2 : es.length = k + ps.length := by simp at he; omega
    show gsets (h.set a e) (List.range' (a + 1) k ++ ps) es = _
    rw [gsets_seg k (a + 1) (h.set a e) es ps he2 (by rw [List.length_set]; omega), gseg_step hl]
    rfl
theorem gseg_len {h : gH} {a k : Nat} {es : List gC} (hl : a + k ≤ h.length) (he : k ≤ es.length) : (gseg h a k es).length = h.length := by
  unfold gseg
  simp only [List.length_append, List.length_take, List.length_drop]
  omega
theorem gsets_seg2 {h : gH} {a k b m : Nat} {es : List gC} (he : es.length = k + m) (h1 : a + k ≤ h.length) (h2 : b + m ≤ h.length) : gsets h (gps a k b m) es = gseg2 h a k b m es := by
  unfold gps gseg2
  rw [gsets_seg k a h es (List.range' b m) (by rw [List.length_range']; exact he) h1]
  have h3 := gsets_seg m b (gseg h a k es) (es.drop k) [] (by rw [List.length_drop]; simp; omega) (by rw [gseg_len h1 (by omega)]; exact h2)
  rw [List.append_nil] at h3
  rw [h3]
  cases hx : (es.drop k).drop m with
  | nil => rfl
  | cons x xs =>
    have := congrArg List.length hx
    simp [List.length_drop] at this
    omega
theorem gmap_seg {h : gH} : ∀ (k a : Nat), a + k ≤ h.length → (List.range' a k).map (fun j => h[j]?) = ((h.drop a).take k).map some
  | 0, a, _ => rfl
  | k + 1, a, hl => by
    have ha : a < h.length := by omega
    have h1 : h.drop a = h[a] :: h.drop (a + 1) := List.drop_eq_getElem_cons ha
    show h[a]? :: (List.range' (a + 1) k).map (fun j => h[j]?) = _
    rw [gmap_seg k (a + 1) (by omega), h1, List.take_succ_cons, List.map_cons, List.getElem?_eq_getElem ha]
theorem gCut_seg {h hc : gH} {a k b m : Nat} (h1 : a + k ≤ h.length) (h2 : b + m ≤ h.length) (he : (h.drop a).take k ++ (h.drop b).take m = hc.map (gre (gren (gps a k b m) h.length))) (hnd : va_nd (gps a k b m) = true) : gCut h hc (gps a k b m) := by
  refine ⟨?_, hnd⟩
  unfold gps
  rw [List.map_append, gmap_seg k a h1, gmap_seg m b h2, ← List.map_append, he, List.map_map]
  rfl
section GD2
variable {K : gK} {sc : Nat × (Nat → Int32)} {R R' : Room} {n0 : Nat} {E : gO → gH → Prop} {cs ss pc : Nat} {l : gL} {st : List Value} {h hc : gH}
theorem gAft_s {a k b m : Nat} {v : Option Value} {hc' h' : gH} {st' : List Value} {pc' : Nat} {cs' ss' : Nat} (h1 : a + k ≤ h.length) (h2 : b + m ≤ h.length) (hl0 : hc.length = k + m) (hlen : hc'.length = hc.length) (hwf : hc'.all (gwf hc.length) = true) (hvf : v.toList.all (gwv hc.length) = true) (hh : gseg2 h a k b m (hc'.map (gre (gren (gps a k b m) h.length))) = h') (hs : (v.map (gmv (gren (gps a k b m) h.length))).toList ++ st = st') (hpc : pc + 3 = pc') (hcs : cs + R'.cells = cs') (hss : ss + R'.slots = ss') (kk : gW K sc R n0 E cs' ss' pc' l st' h') : gAft K sc R R' n0 E (gD (.inl v) hc') cs ss pc l st h hc (gps a k b m) :=
  gAft_r hlen (by rw [hwf, hvf]; rfl) ((gsets_seg2 (by rw [List.length_map, hlen, hl0]) h1 h2).trans hh) hs hpc hcs hss kk
theorem gAft_sx {a k b m : Nat} {Xc : String} {hc' h' : gH} (h1 : a + k ≤ h.length) (h2 : b + m ≤ h.length) (hl0 : hc.length = k + m) (hlen : hc'.length = hc.length) (hwf : hc'.all (gwf hc.length) = true) (hh : gseg2 h a k b m (hc'.map (gre (gren (gps a k b m) h.length))) = h') (hn : h.length = n0) (hw : h'.all (gwf n0) = true) (hE : E (.inr Xc) h') (ht : K.2.2.2.2.2 = []) : gAft K sc R R' n0 E (gD (.inr Xc) hc') cs ss pc l st h hc (gps a k b m) := by
  have he := (gsets_seg2 (h := h) (a := a) (k := k) (b := b) (m := m) (es := hc'.map (gre (gren (gps a k b m) h.length))) (by rw [List.length_map, hlen, hl0]) h1 h2).trans hh
  exact gAft_x hwf hn (by rw [he]; exact hw) (by rw [he]; exact hE) ht
end GD2
end
