section
-- ===== PART A: goes FIRST, ahead of the names: the tables' words, and 'selects' of the private methods out of them =====
/-- a private method of a class that the tables say can be made, by its rows of tables_1 -/
def lw_okq (q : MethodName × Nat) : Prop := (q.1.cls ≠ "java/lang/invoke/MethodHandle" ∧ q.1.cls ≠ "java/lang/invoke/VarHandle") ∧ Cond.instantiable q.1.cls q.2 ∈ tables_1 ∧ Cond.privateMethod q.1 ∈ tables_1 ∧ Cond.instanceMethod q.1 ∈ tables_1
theorem lw_p0 : lw_okq (⟨"BeforeItGoes", "learn", "()I"⟩, 10) := ⟨⟨by decide +kernel, by decide +kernel⟩, List.mem_of_getElem? (i := 20) (by decide +kernel), List.mem_of_getElem? (i := 311) (by decide +kernel), List.mem_of_getElem? (i := 312) (by decide +kernel)⟩
theorem lw_p1 : lw_okq (⟨"BeforeItGoes$Tape", "endOf", "(I)I"⟩, 6) := ⟨⟨by decide +kernel, by decide +kernel⟩, List.mem_of_getElem? (i := 71) (by decide +kernel), List.mem_of_getElem? (i := 327) (by decide +kernel), List.mem_of_getElem? (i := 328) (by decide +kernel)⟩
theorem lw_p2 : lw_okq (⟨"BeforeItGoes$Tape", "tokenOf", "(II)I"⟩, 6) := ⟨⟨by decide +kernel, by decide +kernel⟩, List.mem_of_getElem? (i := 71) (by decide +kernel), List.mem_of_getElem? (i := 337) (by decide +kernel), List.mem_of_getElem? (i := 338) (by decide +kernel)⟩
theorem lw_p3 : lw_okq (⟨"BeforeItGoes$Tape", "spells", "(Ljava/lang/String;II)Z"⟩, 6) := ⟨⟨by decide +kernel, by decide +kernel⟩, List.mem_of_getElem? (i := 71) (by decide +kernel), List.mem_of_getElem? (i := 416) (by decide +kernel), List.mem_of_getElem? (i := 417) (by decide +kernel)⟩
theorem lw_p4 : lw_okq (⟨"BeforeItGoes$Tape", "numberOf", "(II)I"⟩, 6) := ⟨⟨by decide +kernel, by decide +kernel⟩, List.mem_of_getElem? (i := 71) (by decide +kernel), List.mem_of_getElem? (i := 422) (by decide +kernel), List.mem_of_getElem? (i := 423) (by decide +kernel)⟩
theorem lw_p5 : lw_okq (⟨"BeforeItGoes$Reader", "expect", "(I)V"⟩, 5) := ⟨⟨by decide +kernel, by decide +kernel⟩, List.mem_of_getElem? (i := 102) (by decide +kernel), List.mem_of_getElem? (i := 426) (by decide +kernel), List.mem_of_getElem? (i := 427) (by decide +kernel)⟩
theorem lw_p6 : lw_okq (⟨"BeforeItGoes$Reader", "is", "(I)Z"⟩, 5) := ⟨⟨by decide +kernel, by decide +kernel⟩, List.mem_of_getElem? (i := 102) (by decide +kernel), List.mem_of_getElem? (i := 430) (by decide +kernel), List.mem_of_getElem? (i := 431) (by decide +kernel)⟩
theorem lw_p7 : lw_okq (⟨"BeforeItGoes$Reader", "token", "()I"⟩, 5) := ⟨⟨by decide +kernel, by decide +kernel⟩, List.mem_of_getElem? (i := 102) (by decide +kernel), List.mem_of_getElem? (i := 434) (by decide +kernel), List.mem_of_getElem? (i := 435) (by decide +kernel)⟩
theorem lw_p8 : lw_okq (⟨"BeforeItGoes$Reader", "next", "()V"⟩, 5) := ⟨⟨by decide +kernel, by decide +kernel⟩, List.mem_of_getElem? (i := 102) (by decide +kernel), List.mem_of_getElem? (i := 438) (by decide +kernel), List.mem_of_getElem? (i := 439) (by decide +kernel)⟩
theorem lw_p9 : lw_okq (⟨"BeforeItGoes$Reader", "fail", "()V"⟩, 5) := ⟨⟨by decide +kernel, by decide +kernel⟩, List.mem_of_getElem? (i := 102) (by decide +kernel), List.mem_of_getElem? (i := 442) (by decide +kernel), List.mem_of_getElem? (i := 443) (by decide +kernel)⟩
theorem lw_p10 : lw_okq (⟨"BeforeItGoes$Reader", "readE", "()V"⟩, 5) := ⟨⟨by decide +kernel, by decide +kernel⟩, List.mem_of_getElem? (i := 102) (by decide +kernel), List.mem_of_getElem? (i := 446) (by decide +kernel), List.mem_of_getElem? (i := 447) (by decide +kernel)⟩
theorem lw_p11 : lw_okq (⟨"BeforeItGoes$Reader", "readAnd", "()V"⟩, 5) := ⟨⟨by decide +kernel, by decide +kernel⟩, List.mem_of_getElem? (i := 102) (by decide +kernel), List.mem_of_getElem? (i := 450) (by decide +kernel), List.mem_of_getElem? (i := 451) (by decide +kernel)⟩
theorem lw_p12 : lw_okq (⟨"BeforeItGoes$Reader", "readNot", "()V"⟩, 5) := ⟨⟨by decide +kernel, by decide +kernel⟩, List.mem_of_getElem? (i := 102) (by decide +kernel), List.mem_of_getElem? (i := 454) (by decide +kernel), List.mem_of_getElem? (i := 455) (by decide +kernel)⟩
theorem lw_p13 : lw_okq (⟨"BeforeItGoes$Reader", "readCompared", "()V"⟩, 5) := ⟨⟨by decide +kernel, by decide +kernel⟩, List.mem_of_getElem? (i := 102) (by decide +kernel), List.mem_of_getElem? (i := 458) (by decide +kernel), List.mem_of_getElem? (i := 459) (by decide +kernel)⟩
theorem lw_p14 : lw_okq (⟨"BeforeItGoes$Reader", "readSum", "()V"⟩, 5) := ⟨⟨by decide +kernel, by decide +kernel⟩, List.mem_of_getElem? (i := 102) (by decide +kernel), List.mem_of_getElem? (i := 462) (by decide +kernel), List.mem_of_getElem? (i := 463) (by decide +kernel)⟩
theorem lw_p15 : lw_okq (⟨"BeforeItGoes$Reader", "readTerm", "()V"⟩, 5) := ⟨⟨by decide +kernel, by decide +kernel⟩, List.mem_of_getElem? (i := 102) (by decide +kernel), List.mem_of_getElem? (i := 466) (by decide +kernel), List.mem_of_getElem? (i := 467) (by decide +kernel)⟩
def lw_privs_1 : List (MethodName × Nat) := [(⟨"BeforeItGoes", "learn", "()I"⟩, 10), (⟨"BeforeItGoes$Tape", "endOf", "(I)I"⟩, 6), (⟨"BeforeItGoes$Tape", "tokenOf", "(II)I"⟩, 6), (⟨"BeforeItGoes$Tape", "spells", "(Ljava/lang/String;II)Z"⟩, 6), (⟨"BeforeItGoes$Tape", "numberOf", "(II)I"⟩, 6), (⟨"BeforeItGoes$Reader", "expect", "(I)V"⟩, 5), (⟨"BeforeItGoes$Reader", "is", "(I)Z"⟩, 5), (⟨"BeforeItGoes$Reader", "token", "()I"⟩, 5), (⟨"BeforeItGoes$Reader", "next", "()V"⟩, 5), (⟨"BeforeItGoes$Reader", "fail", "()V"⟩, 5), (⟨"BeforeItGoes$Reader", "readE", "()V"⟩, 5), (⟨"BeforeItGoes$Reader", "readAnd", "()V"⟩, 5), (⟨"BeforeItGoes$Reader", "readNot", "()V"⟩, 5), (⟨"BeforeItGoes$Reader", "readCompared", "()V"⟩, 5), (⟨"BeforeItGoes$Reader", "readSum", "()V"⟩, 5), (⟨"BeforeItGoes$Reader", "readTerm", "()V"⟩, 5)]
theorem lw_r1 : ∀ q ∈ lw_privs_1, lw_okq q := List.forall_mem_cons.mpr ⟨lw_p0, List.forall_mem_cons.mpr ⟨lw_p1, List.forall_mem_cons.mpr ⟨lw_p2, List.forall_mem_cons.mpr ⟨lw_p3, List.forall_mem_cons.mpr ⟨lw_p4, List.forall_mem_cons.mpr ⟨lw_p5, List.forall_mem_cons.mpr ⟨lw_p6, List.forall_mem_cons.mpr ⟨lw_p7, List.forall_mem_cons.mpr ⟨lw_p8, List.forall_mem_cons.mpr ⟨lw_p9, List.forall_mem_cons.mpr ⟨lw_p10, List.forall_mem_cons.mpr ⟨lw_p11, List.forall_mem_cons.mpr ⟨lw_p12, List.forall_mem_cons.mpr ⟨lw_p13, List.forall_mem_cons.mpr ⟨lw_p14, List.forall_mem_cons.mpr ⟨lw_p15, fun _ h => absurd h List.not_mem_nil⟩⟩⟩⟩⟩⟩⟩⟩⟩⟩⟩⟩⟩⟩⟩⟩
theorem lw_p16 : lw_okq (⟨"BeforeItGoes$Reader", "readOne", "()V"⟩, 5) := ⟨⟨by decide +kernel, by decide +kernel⟩, List.mem_of_getElem? (i := 102) (by decide +kernel), List.mem_of_getElem? (i := 470) (by decide +kernel), List.mem_of_getElem? (i := 471) (by decide +kernel)⟩
theorem lw_p17 : lw_okq (⟨"BeforeItGoes$Reader", "number", "()I"⟩, 5) := ⟨⟨by decide +kernel, by decide +kernel⟩, List.mem_of_getElem? (i := 102) (by decide +kernel), List.mem_of_getElem? (i := 474) (by decide +kernel), List.mem_of_getElem? (i := 475) (by decide +kernel)⟩
theorem lw_p18 : lw_okq (⟨"BeforeItGoes$Reader", "readMinus", "()V"⟩, 5) := ⟨⟨by decide +kernel, by decide +kernel⟩, List.mem_of_getElem? (i := 102) (by decide +kernel), List.mem_of_getElem? (i := 482) (by decide +kernel), List.mem_of_getElem? (i := 483) (by decide +kernel)⟩
theorem lw_p19 : lw_okq (⟨"BeforeItGoes$Reader", "opens", "()Z"⟩, 5) := ⟨⟨by decide +kernel, by decide +kernel⟩, List.mem_of_getElem? (i := 102) (by decide +kernel), List.mem_of_getElem? (i := 486) (by decide +kernel), List.mem_of_getElem? (i := 487) (by decide +kernel)⟩
theorem lw_p20 : lw_okq (⟨"BeforeItGoes$Reader", "readBracket", "()V"⟩, 5) := ⟨⟨by decide +kernel, by decide +kernel⟩, List.mem_of_getElem? (i := 102) (by decide +kernel), List.mem_of_getElem? (i := 490) (by decide +kernel), List.mem_of_getElem? (i := 491) (by decide +kernel)⟩
theorem lw_p21 : lw_okq (⟨"BeforeItGoes", "reckoned", "(II)I"⟩, 10) := ⟨⟨by decide +kernel, by decide +kernel⟩, List.mem_of_getElem? (i := 20) (by decide +kernel), List.mem_of_getElem? (i := 569) (by decide +kernel), List.mem_of_getElem? (i := 570) (by decide +kernel)⟩
theorem lw_p22 : lw_okq (⟨"BeforeItGoes", "startTrial", "()V"⟩, 10) := ⟨⟨by decide +kernel, by decide +kernel⟩, List.mem_of_getElem? (i := 20) (by decide +kernel), List.mem_of_getElem? (i := 573) (by decide +kernel), List.mem_of_getElem? (i := 574) (by decide +kernel)⟩
theorem lw_p23 : lw_okq (⟨"BeforeItGoes$Day", "tells", "(III)I"⟩, 17) := ⟨⟨by decide +kernel, by decide +kernel⟩, List.mem_of_getElem? (i := 143) (by decide +kernel), List.mem_of_getElem? (i := 589) (by decide +kernel), List.mem_of_getElem? (i := 590) (by decide +kernel)⟩
theorem lw_p24 : lw_okq (⟨"BeforeItGoes", "isOfDay", "(I)Z"⟩, 10) := ⟨⟨by decide +kernel, by decide +kernel⟩, List.mem_of_getElem? (i := 20) (by decide +kernel), List.mem_of_getElem? (i := 633) (by decide +kernel), List.mem_of_getElem? (i := 634) (by decide +kernel)⟩
theorem lw_p25 : lw_okq (⟨"BeforeItGoes$Day", "dawn", "()V"⟩, 17) := ⟨⟨by decide +kernel, by decide +kernel⟩, List.mem_of_getElem? (i := 143) (by decide +kernel), List.mem_of_getElem? (i := 642) (by decide +kernel), List.mem_of_getElem? (i := 643) (by decide +kernel)⟩
theorem lw_p26 : lw_okq (⟨"BeforeItGoes$Day", "firstRipe", "()I"⟩, 17) := ⟨⟨by decide +kernel, by decide +kernel⟩, List.mem_of_getElem? (i := 143) (by decide +kernel), List.mem_of_getElem? (i := 646) (by decide +kernel), List.mem_of_getElem? (i := 647) (by decide +kernel)⟩
theorem lw_p27 : lw_okq (⟨"BeforeItGoes$Day", "trowel", "(I)V"⟩, 17) := ⟨⟨by decide +kernel, by decide +kernel⟩, List.mem_of_getElem? (i := 143) (by decide +kernel), List.mem_of_getElem? (i := 650) (by decide +kernel), List.mem_of_getElem? (i := 651) (by decide +kernel)⟩
theorem lw_p28 : lw_okq (⟨"BeforeItGoes$Day", "mayBegin", "()Z"⟩, 17) := ⟨⟨by decide +kernel, by decide +kernel⟩, List.mem_of_getElem? (i := 143) (by decide +kernel), List.mem_of_getElem? (i := 654) (by decide +kernel), List.mem_of_getElem? (i := 655) (by decide +kernel)⟩
theorem lw_p29 : lw_okq (⟨"BeforeItGoes$Day", "nextBegins", "()I"⟩, 17) := ⟨⟨by decide +kernel, by decide +kernel⟩, List.mem_of_getElem? (i := 143) (by decide +kernel), List.mem_of_getElem? (i := 658) (by decide +kernel), List.mem_of_getElem? (i := 659) (by decide +kernel)⟩
theorem lw_p30 : lw_okq (⟨"BeforeItGoes$Day", "begin", "(I)V"⟩, 17) := ⟨⟨by decide +kernel, by decide +kernel⟩, List.mem_of_getElem? (i := 143) (by decide +kernel), List.mem_of_getElem? (i := 662) (by decide +kernel), List.mem_of_getElem? (i := 663) (by decide +kernel)⟩
theorem lw_p31 : lw_okq (⟨"BeforeItGoes$Day", "waitOn", "()V"⟩, 17) := ⟨⟨by decide +kernel, by decide +kernel⟩, List.mem_of_getElem? (i := 143) (by decide +kernel), List.mem_of_getElem? (i := 666) (by decide +kernel), List.mem_of_getElem? (i := 667) (by decide +kernel)⟩
def lw_privs_2 : List (MethodName × Nat) := [(⟨"BeforeItGoes$Reader", "readOne", "()V"⟩, 5), (⟨"BeforeItGoes$Reader", "number", "()I"⟩, 5), (⟨"BeforeItGoes$Reader", "readMinus", "()V"⟩, 5), (⟨"BeforeItGoes$Reader", "opens", "()Z"⟩, 5), (⟨"BeforeItGoes$Reader", "readBracket", "()V"⟩, 5), (⟨"BeforeItGoes", "reckoned", "(II)I"⟩, 10), (⟨"BeforeItGoes", "startTrial", "()V"⟩, 10), (⟨"BeforeItGoes$Day", "tells", "(III)I"⟩, 17), (⟨"BeforeItGoes", "isOfDay", "(I)Z"⟩, 10), (⟨"BeforeItGoes$Day", "dawn", "()V"⟩, 17), (⟨"BeforeItGoes$Day", "firstRipe", "()I"⟩, 17), (⟨"BeforeItGoes$Day", "trowel", "(I)V"⟩, 17), (⟨"BeforeItGoes$Day", "mayBegin", "()Z"⟩, 17), (⟨"BeforeItGoes$Day", "nextBegins", "()I"⟩, 17), (⟨"BeforeItGoes$Day", "begin", "(I)V"⟩, 17), (⟨"BeforeItGoes$Day", "waitOn", "()V"⟩, 17)]
theorem lw_r2 : ∀ q ∈ lw_privs_2, lw_okq q := List.forall_mem_cons.mpr ⟨lw_p16, List.forall_mem_cons.mpr ⟨lw_p17, List.forall_mem_cons.mpr ⟨lw_p18, List.forall_mem_cons.mpr ⟨lw_p19, List.forall_mem_cons.mpr ⟨lw_p20, List.forall_mem_cons.mpr ⟨lw_p21, List.forall_mem_cons.mpr ⟨lw_p22, List.forall_mem_cons.mpr ⟨lw_p23, List.forall_mem_cons.mpr ⟨lw_p24, List.forall_mem_cons.mpr ⟨lw_p25, List.forall_mem_cons.mpr ⟨lw_p26, List.forall_mem_cons.mpr ⟨lw_p27, List.forall_mem_cons.mpr ⟨lw_p28, List.forall_mem_cons.mpr ⟨lw_p29, List.forall_mem_cons.mpr ⟨lw_p30, List.forall_mem_cons.mpr ⟨lw_p31, fun _ h => absurd h List.not_mem_nil⟩⟩⟩⟩⟩⟩⟩⟩⟩⟩⟩⟩⟩⟩⟩⟩
theorem lw_p32 : lw_okq (⟨"BeforeItGoes", "ofDay", "(I)I"⟩, 10) := ⟨⟨by decide +kernel, by decide +kernel⟩, List.mem_of_getElem? (i := 20) (by decide +kernel), List.mem_of_getElem? (i := 670) (by decide +kernel), List.mem_of_getElem? (i := 671) (by decide +kernel)⟩
theorem lw_p33 : lw_okq (⟨"BeforeItGoes", "ofWallsDay", "(II)I"⟩, 10) := ⟨⟨by decide +kernel, by decide +kernel⟩, List.mem_of_getElem? (i := 20) (by decide +kernel), List.mem_of_getElem? (i := 682) (by decide +kernel), List.mem_of_getElem? (i := 683) (by decide +kernel)⟩
theorem lw_p34 : lw_okq (⟨"BeforeItGoes", "sheetAt", "(I)LBeforeItGoes$Sheet;"⟩, 10) := ⟨⟨by decide +kernel, by decide +kernel⟩, List.mem_of_getElem? (i := 20) (by decide +kernel), List.mem_of_getElem? (i := 690) (by decide +kernel), List.mem_of_getElem? (i := 691) (by decide +kernel)⟩
theorem lw_p35 : lw_okq (⟨"BeforeItGoes", "startOrder", "(LBeforeItGoes$Sheet;)Z"⟩, 10) := ⟨⟨by decide +kernel, by decide +kernel⟩, List.mem_of_getElem? (i := 20) (by decide +kernel), List.mem_of_getElem? (i := 694) (by decide +kernel), List.mem_of_getElem? (i := 695) (by decide +kernel)⟩
theorem lw_p36 : lw_okq (⟨"BeforeItGoes$Day", "swap", "(II)V"⟩, 17) := ⟨⟨by decide +kernel, by decide +kernel⟩, List.mem_of_getElem? (i := 143) (by decide +kernel), List.mem_of_getElem? (i := 722) (by decide +kernel), List.mem_of_getElem? (i := 723) (by decide +kernel)⟩
theorem lw_p37 : lw_okq (⟨"BeforeItGoes", "liveWith", "(II)V"⟩, 10) := ⟨⟨by decide +kernel, by decide +kernel⟩, List.mem_of_getElem? (i := 20) (by decide +kernel), List.mem_of_getElem? (i := 730) (by decide +kernel), List.mem_of_getElem? (i := 731) (by decide +kernel)⟩
theorem lw_p38 : lw_okq (⟨"BeforeItGoes", "notSo", "(LBeforeItGoes$Sheet;)I"⟩, 10) := ⟨⟨by decide +kernel, by decide +kernel⟩, List.mem_of_getElem? (i := 20) (by decide +kernel), List.mem_of_getElem? (i := 772) (by decide +kernel), List.mem_of_getElem? (i := 773) (by decide +kernel)⟩
theorem lw_p39 : lw_okq (⟨"BeforeItGoes", "dialsOf", "(LBeforeItGoes$Sheet;I)J"⟩, 10) := ⟨⟨by decide +kernel, by decide +kernel⟩, List.mem_of_getElem? (i := 20) (by decide +kernel), List.mem_of_getElem? (i := 780) (by decide +kernel), List.mem_of_getElem? (i := 781) (by decide +kernel)⟩
theorem lw_p40 : lw_okq (⟨"BeforeItGoes", "textsOf", "(LBeforeItGoes$Sheet;)I"⟩, 10) := ⟨⟨by decide +kernel, by decide +kernel⟩, List.mem_of_getElem? (i := 20) (by decide +kernel), List.mem_of_getElem? (i := 784) (by decide +kernel), List.mem_of_getElem? (i := 785) (by decide +kernel)⟩
theorem lw_p41 : lw_okq (⟨"BeforeItGoes", "kindsOf", "(LBeforeItGoes$Sheet;I)I"⟩, 10) := ⟨⟨by decide +kernel, by decide +kernel⟩, List.mem_of_getElem? (i := 20) (by decide +kernel), List.mem_of_getElem? (i := 788) (by decide +kernel), List.mem_of_getElem? (i := 789) (by decide +kernel)⟩
theorem lw_p42 : lw_okq (⟨"BeforeItGoesModel", "spell", "(IIIIIIIII)V"⟩, 53) := ⟨⟨by decide +kernel, by decide +kernel⟩, List.mem_of_getElem? (i := 872) (by decide +kernel), List.mem_of_getElem? (i := 878) (by decide +kernel), List.mem_of_getElem? (i := 879) (by decide +kernel)⟩
theorem lw_p43 : lw_okq (⟨"BeforeItGoesModel", "isWall", "(I)Z"⟩, 53) := ⟨⟨by decide +kernel, by decide +kernel⟩, List.mem_of_getElem? (i := 872) (by decide +kernel), List.mem_of_getElem? (i := 1050) (by decide +kernel), List.mem_of_getElem? (i := 1051) (by decide +kernel)⟩
theorem lw_p44 : lw_okq (⟨"BeforeItGoesModel", "ripensOf", "(I)I"⟩, 53) := ⟨⟨by decide +kernel, by decide +kernel⟩, List.mem_of_getElem? (i := 872) (by decide +kernel), List.mem_of_getElem? (i := 1066) (by decide +kernel), List.mem_of_getElem? (i := 1067) (by decide +kernel)⟩
theorem lw_p45 : lw_okq (⟨"BeforeItGoesModel", "says", "(IIIII)I"⟩, 53) := ⟨⟨by decide +kernel, by decide +kernel⟩, List.mem_of_getElem? (i := 872) (by decide +kernel), List.mem_of_getElem? (i := 1070) (by decide +kernel), List.mem_of_getElem? (i := 1071) (by decide +kernel)⟩
theorem lw_p46 : lw_okq (⟨"BeforeItGoesModel", "read", "(II)I"⟩, 53) := ⟨⟨by decide +kernel, by decide +kernel⟩, List.mem_of_getElem? (i := 872) (by decide +kernel), List.mem_of_getElem? (i := 1074) (by decide +kernel), List.mem_of_getElem? (i := 1075) (by decide +kernel)⟩
theorem lw_p47 : lw_okq (⟨"BeforeItGoesModel", "next", "()V"⟩, 53) := ⟨⟨by decide +kernel, by decide +kernel⟩, List.mem_of_getElem? (i := 872) (by decide +kernel), List.mem_of_getElem? (i := 1078) (by decide +kernel), List.mem_of_getElem? (i := 1079) (by decide +kernel)⟩
def lw_privs_3 : List (MethodName × Nat) := [(⟨"BeforeItGoes", "ofDay", "(I)I"⟩, 10), (⟨"BeforeItGoes", "ofWallsDay", "(II)I"⟩, 10), (⟨"BeforeItGoes", "sheetAt", "(I)LBeforeItGoes$Sheet;"⟩, 10), (⟨"BeforeItGoes", "startOrder", "(LBeforeItGoes$Sheet;)Z"⟩, 10), (⟨"BeforeItGoes$Day", "swap", "(II)V"⟩, 17), (⟨"BeforeItGoes", "liveWith", "(II)V"⟩, 10), (⟨"BeforeItGoes", "notSo", "(LBeforeItGoes$Sheet;)I"⟩, 10), (⟨"BeforeItGoes", "dialsOf", "(LBeforeItGoes$Sheet;I)J"⟩, 10), (⟨"BeforeItGoes", "textsOf", "(LBeforeItGoes$Sheet;)I"⟩, 10), (⟨"BeforeItGoes", "kindsOf", "(LBeforeItGoes$Sheet;I)I"⟩, 10), (⟨"BeforeItGoesModel", "spell", "(IIIIIIIII)V"⟩, 53), (⟨"BeforeItGoesModel", "isWall", "(I)Z"⟩, 53), (⟨"BeforeItGoesModel", "ripensOf", "(I)I"⟩, 53), (⟨"BeforeItGoesModel", "says", "(IIIII)I"⟩, 53), (⟨"BeforeItGoesModel", "read", "(II)I"⟩, 53), (⟨"BeforeItGoesModel", "next", "()V"⟩, 53)]
theorem lw_r3 : ∀ q ∈ lw_privs_3, lw_okq q := List.forall_mem_cons.mpr ⟨lw_p32, List.forall_mem_cons.mpr ⟨lw_p33, List.forall_mem_cons.mpr ⟨lw_p34, List.forall_mem_cons.mpr ⟨lw_p35, List.forall_mem_cons.mpr ⟨lw_p36, List.forall_mem_cons.mpr ⟨lw_p37, List.forall_mem_cons.mpr ⟨lw_p38, List.forall_mem_cons.mpr ⟨lw_p39, List.forall_mem_cons.mpr ⟨lw_p40, List.forall_mem_cons.mpr ⟨lw_p41, List.forall_mem_cons.mpr ⟨lw_p42, List.forall_mem_cons.mpr ⟨lw_p43, List.forall_mem_cons.mpr ⟨lw_p44, List.forall_mem_cons.mpr ⟨lw_p45, List.forall_mem_cons.mpr ⟨lw_p46, List.forall_mem_cons.mpr ⟨lw_p47, fun _ h => absurd h List.not_mem_nil⟩⟩⟩⟩⟩⟩⟩⟩⟩⟩⟩⟩⟩⟩⟩⟩
theorem lw_p48 : lw_okq (⟨"BeforeItGoesModel", "byteAt", "(I)I"⟩, 53) := ⟨⟨by decide +kernel, by decide +kernel⟩, List.mem_of_getElem? (i := 872) (by decide +kernel), List.mem_of_getElem? (i := 1082) (by decide +kernel), List.mem_of_getElem? (i := 1083) (by decide +kernel)⟩
theorem lw_p49 : lw_okq (⟨"BeforeItGoesModel", "isWord", "(IIIIIIII)Z"⟩, 53) := ⟨⟨by decide +kernel, by decide +kernel⟩, List.mem_of_getElem? (i := 872) (by decide +kernel), List.mem_of_getElem? (i := 1091) (by decide +kernel), List.mem_of_getElem? (i := 1092) (by decide +kernel)⟩
theorem lw_p50 : lw_okq (⟨"BeforeItGoesModel", "isLetter", "(II)Z"⟩, 53) := ⟨⟨by decide +kernel, by decide +kernel⟩, List.mem_of_getElem? (i := 872) (by decide +kernel), List.mem_of_getElem? (i := 1095) (by decide +kernel), List.mem_of_getElem? (i := 1096) (by decide +kernel)⟩
theorem lw_p51 : lw_okq (⟨"BeforeItGoesModel", "part", "(Z)I"⟩, 53) := ⟨⟨by decide +kernel, by decide +kernel⟩, List.mem_of_getElem? (i := 872) (by decide +kernel), List.mem_of_getElem? (i := 1099) (by decide +kernel), List.mem_of_getElem? (i := 1100) (by decide +kernel)⟩
theorem lw_p52 : lw_okq (⟨"BeforeItGoesModel", "fail", "()V"⟩, 53) := ⟨⟨by decide +kernel, by decide +kernel⟩, List.mem_of_getElem? (i := 872) (by decide +kernel), List.mem_of_getElem? (i := 1103) (by decide +kernel), List.mem_of_getElem? (i := 1104) (by decide +kernel)⟩
theorem lw_p53 : lw_okq (⟨"BeforeItGoesModel", "either", "()I"⟩, 53) := ⟨⟨by decide +kernel, by decide +kernel⟩, List.mem_of_getElem? (i := 872) (by decide +kernel), List.mem_of_getElem? (i := 1107) (by decide +kernel), List.mem_of_getElem? (i := 1108) (by decide +kernel)⟩
theorem lw_p54 : lw_okq (⟨"BeforeItGoesModel", "both", "()I"⟩, 53) := ⟨⟨by decide +kernel, by decide +kernel⟩, List.mem_of_getElem? (i := 872) (by decide +kernel), List.mem_of_getElem? (i := 1111) (by decide +kernel), List.mem_of_getElem? (i := 1112) (by decide +kernel)⟩
theorem lw_p55 : lw_okq (⟨"BeforeItGoesModel", "not", "()I"⟩, 53) := ⟨⟨by decide +kernel, by decide +kernel⟩, List.mem_of_getElem? (i := 872) (by decide +kernel), List.mem_of_getElem? (i := 1115) (by decide +kernel), List.mem_of_getElem? (i := 1116) (by decide +kernel)⟩
theorem lw_p56 : lw_okq (⟨"BeforeItGoesModel", "opens", "()Z"⟩, 53) := ⟨⟨by decide +kernel, by decide +kernel⟩, List.mem_of_getElem? (i := 872) (by decide +kernel), List.mem_of_getElem? (i := 1119) (by decide +kernel), List.mem_of_getElem? (i := 1120) (by decide +kernel)⟩
theorem lw_p57 : lw_okq (⟨"BeforeItGoesModel", "added", "()I"⟩, 53) := ⟨⟨by decide +kernel, by decide +kernel⟩, List.mem_of_getElem? (i := 872) (by decide +kernel), List.mem_of_getElem? (i := 1123) (by decide +kernel), List.mem_of_getElem? (i := 1124) (by decide +kernel)⟩
theorem lw_p58 : lw_okq (⟨"BeforeItGoesModel", "term", "()I"⟩, 53) := ⟨⟨by decide +kernel, by decide +kernel⟩, List.mem_of_getElem? (i := 872) (by decide +kernel), List.mem_of_getElem? (i := 1127) (by decide +kernel), List.mem_of_getElem? (i := 1128) (by decide +kernel)⟩
theorem lw_p59 : lw_okq (⟨"BeforeItGoesModel", "atom", "()I"⟩, 53) := ⟨⟨by decide +kernel, by decide +kernel⟩, List.mem_of_getElem? (i := 872) (by decide +kernel), List.mem_of_getElem? (i := 1131) (by decide +kernel), List.mem_of_getElem? (i := 1132) (by decide +kernel)⟩
theorem lw_p60 : lw_okq (⟨"BeforeItGoesModel", "isSign", "(I)Z"⟩, 53) := ⟨⟨by decide +kernel, by decide +kernel⟩, List.mem_of_getElem? (i := 872) (by decide +kernel), List.mem_of_getElem? (i := 1135) (by decide +kernel), List.mem_of_getElem? (i := 1136) (by decide +kernel)⟩
theorem lw_p61 : lw_okq (⟨"BeforeItGoesModel", "name", "()I"⟩, 53) := ⟨⟨by decide +kernel, by decide +kernel⟩, List.mem_of_getElem? (i := 872) (by decide +kernel), List.mem_of_getElem? (i := 1139) (by decide +kernel), List.mem_of_getElem? (i := 1140) (by decide +kernel)⟩
theorem lw_p62 : lw_okq (⟨"BeforeItGoesModel", "lastsOf", "(I)I"⟩, 53) := ⟨⟨by decide +kernel, by decide +kernel⟩, List.mem_of_getElem? (i := 872) (by decide +kernel), List.mem_of_getElem? (i := 1148) (by decide +kernel), List.mem_of_getElem? (i := 1149) (by decide +kernel)⟩
theorem lw_p63 : lw_okq (⟨"BeforeItGoesModel", "takesOf", "(I)I"⟩, 53) := ⟨⟨by decide +kernel, by decide +kernel⟩, List.mem_of_getElem? (i := 872) (by decide +kernel), List.mem_of_getElem? (i := 1152) (by decide +kernel), List.mem_of_getElem? (i := 1153) (by decide +kernel)⟩
def lw_privs_4 : List (MethodName × Nat) := [(⟨"BeforeItGoesModel", "byteAt", "(I)I"⟩, 53), (⟨"BeforeItGoesModel", "isWord", "(IIIIIIII)Z"⟩, 53), (⟨"BeforeItGoesModel", "isLetter", "(II)Z"⟩, 53), (⟨"BeforeItGoesModel", "part", "(Z)I"⟩, 53), (⟨"BeforeItGoesModel", "fail", "()V"⟩, 53), (⟨"BeforeItGoesModel", "either", "()I"⟩, 53), (⟨"BeforeItGoesModel", "both", "()I"⟩, 53), (⟨"BeforeItGoesModel", "not", "()I"⟩, 53), (⟨"BeforeItGoesModel", "opens", "()Z"⟩, 53), (⟨"BeforeItGoesModel", "added", "()I"⟩, 53), (⟨"BeforeItGoesModel", "term", "()I"⟩, 53), (⟨"BeforeItGoesModel", "atom", "()I"⟩, 53), (⟨"BeforeItGoesModel", "isSign", "(I)Z"⟩, 53), (⟨"BeforeItGoesModel", "name", "()I"⟩, 53), (⟨"BeforeItGoesModel", "lastsOf", "(I)I"⟩, 53), (⟨"BeforeItGoesModel", "takesOf", "(I)I"⟩, 53)]
theorem lw_r4 : ∀ q ∈ lw_privs_4, lw_okq q := List.forall_mem_cons.mpr ⟨lw_p48, List.forall_mem_cons.mpr ⟨lw_p49, List.forall_mem_cons.mpr ⟨lw_p50, List.forall_mem_cons.mpr ⟨lw_p51, List.forall_mem_cons.mpr ⟨lw_p52, List.forall_mem_cons.mpr ⟨lw_p53, List.forall_mem_cons.mpr ⟨lw_p54, List.forall_mem_cons.mpr ⟨lw_p55, List.forall_mem_cons.mpr ⟨lw_p56, List.forall_mem_cons.mpr ⟨lw_p57, List.forall_mem_cons.mpr ⟨lw_p58, List.forall_mem_cons.mpr ⟨lw_p59, List.forall_mem_cons.mpr ⟨lw_p60, List.forall_mem_cons.mpr ⟨lw_p61, List.forall_mem_cons.mpr ⟨lw_p62, List.forall_mem_cons.mpr ⟨lw_p63, fun _ h => absurd h List.not_mem_nil⟩⟩⟩⟩⟩⟩⟩⟩⟩⟩⟩⟩⟩⟩⟩⟩
theorem lw_p64 : lw_okq (⟨"BeforeItGoesModel", "isTells", "(I)Z"⟩, 53) := ⟨⟨by decide +kernel, by decide +kernel⟩, List.mem_of_getElem? (i := 872) (by decide +kernel), List.mem_of_getElem? (i := 1173) (by decide +kernel), List.mem_of_getElem? (i := 1174) (by decide +kernel)⟩
theorem lw_p65 : lw_okq (⟨"BeforeItGoesModel", "livesPlain", "(I)V"⟩, 53) := ⟨⟨by decide +kernel, by decide +kernel⟩, List.mem_of_getElem? (i := 872) (by decide +kernel), List.mem_of_getElem? (i := 1180) (by decide +kernel), List.mem_of_getElem? (i := 1181) (by decide +kernel)⟩
theorem lw_p66 : lw_okq (⟨"BeforeItGoesModel", "gathers", "()V"⟩, 53) := ⟨⟨by decide +kernel, by decide +kernel⟩, List.mem_of_getElem? (i := 872) (by decide +kernel), List.mem_of_getElem? (i := 1184) (by decide +kernel), List.mem_of_getElem? (i := 1185) (by decide +kernel)⟩
theorem lw_p67 : lw_okq (⟨"BeforeItGoesModel", "lives", "()V"⟩, 53) := ⟨⟨by decide +kernel, by decide +kernel⟩, List.mem_of_getElem? (i := 872) (by decide +kernel), List.mem_of_getElem? (i := 1188) (by decide +kernel), List.mem_of_getElem? (i := 1189) (by decide +kernel)⟩
theorem lw_p68 : lw_okq (⟨"BeforeItGoesModel", "toTrowel", "()I"⟩, 53) := ⟨⟨by decide +kernel, by decide +kernel⟩, List.mem_of_getElem? (i := 872) (by decide +kernel), List.mem_of_getElem? (i := 1192) (by decide +kernel), List.mem_of_getElem? (i := 1193) (by decide +kernel)⟩
theorem lw_p69 : lw_okq (⟨"BeforeItGoesModel", "trowels", "(I)V"⟩, 53) := ⟨⟨by decide +kernel, by decide +kernel⟩, List.mem_of_getElem? (i := 872) (by decide +kernel), List.mem_of_getElem? (i := 1196) (by decide +kernel), List.mem_of_getElem? (i := 1197) (by decide +kernel)⟩
theorem lw_p70 : lw_okq (⟨"BeforeItGoesModel", "begins", "(I)V"⟩, 53) := ⟨⟨by decide +kernel, by decide +kernel⟩, List.mem_of_getElem? (i := 872) (by decide +kernel), List.mem_of_getElem? (i := 1200) (by decide +kernel), List.mem_of_getElem? (i := 1201) (by decide +kernel)⟩
theorem lw_p71 : lw_okq (⟨"BeforeItGoesModel", "tells", "(I)I"⟩, 53) := ⟨⟨by decide +kernel, by decide +kernel⟩, List.mem_of_getElem? (i := 872) (by decide +kernel), List.mem_of_getElem? (i := 1204) (by decide +kernel), List.mem_of_getElem? (i := 1205) (by decide +kernel)⟩
theorem lw_p72 : lw_okq (⟨"BeforeItGoesModel", "setOf", "(I)I"⟩, 53) := ⟨⟨by decide +kernel, by decide +kernel⟩, List.mem_of_getElem? (i := 872) (by decide +kernel), List.mem_of_getElem? (i := 1208) (by decide +kernel), List.mem_of_getElem? (i := 1209) (by decide +kernel)⟩
theorem lw_p73 : lw_okq (⟨"BeforeItGoesModel", "laysOrder", "(I)Z"⟩, 53) := ⟨⟨by decide +kernel, by decide +kernel⟩, List.mem_of_getElem? (i := 872) (by decide +kernel), List.mem_of_getElem? (i := 1220) (by decide +kernel), List.mem_of_getElem? (i := 1221) (by decide +kernel)⟩
theorem lw_p74 : lw_okq (⟨"BeforeItGoesModel", "triesFrom", "(II)V"⟩, 53) := ⟨⟨by decide +kernel, by decide +kernel⟩, List.mem_of_getElem? (i := 872) (by decide +kernel), List.mem_of_getElem? (i := 1229) (by decide +kernel), List.mem_of_getElem? (i := 1230) (by decide +kernel)⟩
theorem lw_p75 : lw_okq (⟨"BeforeItGoesModel", "wet", "(I)V"⟩, 53) := ⟨⟨by decide +kernel, by decide +kernel⟩, List.mem_of_getElem? (i := 872) (by decide +kernel), List.mem_of_getElem? (i := 1242) (by decide +kernel), List.mem_of_getElem? (i := 1243) (by decide +kernel)⟩
theorem lw_p76 : lw_okq (⟨"BeforeItGoesModel", "livesBy", "(II)V"⟩, 53) := ⟨⟨by decide +kernel, by decide +kernel⟩, List.mem_of_getElem? (i := 872) (by decide +kernel), List.mem_of_getElem? (i := 1257) (by decide +kernel), List.mem_of_getElem? (i := 1258) (by decide +kernel)⟩
theorem lw_p77 : lw_okq (⟨"BeforeItGoesModel", "tellsSort", "(I)I"⟩, 53) := ⟨⟨by decide +kernel, by decide +kernel⟩, List.mem_of_getElem? (i := 872) (by decide +kernel), List.mem_of_getElem? (i := 1275) (by decide +kernel), List.mem_of_getElem? (i := 1276) (by decide +kernel)⟩
theorem lw_p78 : lw_okq (⟨"BeforeItGoesModel", "laysSort", "(II)V"⟩, 53) := ⟨⟨by decide +kernel, by decide +kernel⟩, List.mem_of_getElem? (i := 872) (by decide +kernel), List.mem_of_getElem? (i := 1279) (by decide +kernel), List.mem_of_getElem? (i := 1280) (by decide +kernel)⟩
theorem lw_p79 : lw_okq (⟨"BeforeItGoesModel", "isSo", "(I)Z"⟩, 53) := ⟨⟨by decide +kernel, by decide +kernel⟩, List.mem_of_getElem? (i := 872) (by decide +kernel), List.mem_of_getElem? (i := 1283) (by decide +kernel), List.mem_of_getElem? (i := 1284) (by decide +kernel)⟩
def lw_privs_5 : List (MethodName × Nat) := [(⟨"BeforeItGoesModel", "isTells", "(I)Z"⟩, 53), (⟨"BeforeItGoesModel", "livesPlain", "(I)V"⟩, 53), (⟨"BeforeItGoesModel", "gathers", "()V"⟩, 53), (⟨"BeforeItGoesModel", "lives", "()V"⟩, 53), (⟨"BeforeItGoesModel", "toTrowel", "()I"⟩, 53), (⟨"BeforeItGoesModel", "trowels", "(I)V"⟩, 53), (⟨"BeforeItGoesModel", "begins", "(I)V"⟩, 53), (⟨"BeforeItGoesModel", "tells", "(I)I"⟩, 53), (⟨"BeforeItGoesModel", "setOf", "(I)I"⟩, 53), (⟨"BeforeItGoesModel", "laysOrder", "(I)Z"⟩, 53), (⟨"BeforeItGoesModel", "triesFrom", "(II)V"⟩, 53), (⟨"BeforeItGoesModel", "wet", "(I)V"⟩, 53), (⟨"BeforeItGoesModel", "livesBy", "(II)V"⟩, 53), (⟨"BeforeItGoesModel", "tellsSort", "(I)I"⟩, 53), (⟨"BeforeItGoesModel", "laysSort", "(II)V"⟩, 53), (⟨"BeforeItGoesModel", "isSo", "(I)Z"⟩, 53)]
theorem lw_r5 : ∀ q ∈ lw_privs_5, lw_okq q := List.forall_mem_cons.mpr ⟨lw_p64, List.forall_mem_cons.mpr ⟨lw_p65, List.forall_mem_cons.mpr ⟨lw_p66, List.forall_mem_cons.mpr ⟨lw_p67, List.forall_mem_cons.mpr ⟨lw_p68, List.forall_mem_cons.mpr ⟨lw_p69, List.forall_mem_cons.mpr ⟨lw_p70, List.forall_mem_cons.mpr ⟨lw_p71, List.forall_mem_cons.mpr ⟨lw_p72, List.forall_mem_cons.mpr ⟨lw_p73, List.forall_mem_cons.mpr ⟨lw_p74, List.forall_mem_cons.mpr ⟨lw_p75, List.forall_mem_cons.mpr ⟨lw_p76, List.forall_mem_cons.mpr ⟨lw_p77, List.forall_mem_cons.mpr ⟨lw_p78, List.forall_mem_cons.mpr ⟨lw_p79, fun _ h => absurd h List.not_mem_nil⟩⟩⟩⟩⟩⟩⟩⟩⟩⟩⟩⟩⟩⟩⟩⟩
theorem lw_p80 : lw_okq (⟨"BeforeItGoesModel", "draws", "(I)V"⟩, 53) := ⟨⟨by decide +kernel, by decide +kernel⟩, List.mem_of_getElem? (i := 872) (by decide +kernel), List.mem_of_getElem? (i := 1305) (by decide +kernel), List.mem_of_getElem? (i := 1306) (by decide +kernel)⟩
def lw_privs_6 : List (MethodName × Nat) := [(⟨"BeforeItGoesModel", "draws", "(I)V"⟩, 53)]
theorem lw_r6 : ∀ q ∈ lw_privs_6, lw_okq q := List.forall_mem_cons.mpr ⟨lw_p80, fun _ h => absurd h List.not_mem_nil⟩
def lw_privs : List (MethodName × Nat) := lw_privs_1 ++ (lw_privs_2 ++ (lw_privs_3 ++ (lw_privs_4 ++ (lw_privs_5 ++ (lw_privs_6)))))
def lw_tbl : List Cond := k2_sels lw_privs ++ tables_1
theorem lw_privs_ok : ∀ q ∈ lw_privs, lw_okq q := by
  show ∀ q ∈ lw_privs_1 ++ (lw_privs_2 ++ (lw_privs_3 ++ (lw_privs_4 ++ (lw_privs_5 ++ (lw_privs_6))))), lw_okq q
  exact List.forall_mem_append.mpr ⟨lw_r1, List.forall_mem_append.mpr ⟨lw_r2, List.forall_mem_append.mpr ⟨lw_r3, List.forall_mem_append.mpr ⟨lw_r4, List.forall_mem_append.mpr ⟨lw_r5, lw_r6⟩⟩⟩⟩⟩
end
section
-- printed by TURN (NAMES): names, fields
def RX0 : String := "BeforeItGoes$Day"
def TX0 : u_T := fun k => match k with
  | 0 => ("BeforeItGoes$Day", "site", "LBeforeItGoes$Site;", true)
  | 1 => ("BeforeItGoes$Day", "texts", "[LBeforeItGoes$Text;", true)
  | 2 => ("BeforeItGoes$Day", "stack", "[I", true)
  | 3 => ("BeforeItGoes$Day", "names", "[I", true)
  | 4 => ("BeforeItGoes$Day", "row", "[I", true)
  | 5 => ("BeforeItGoes$Day", "ripens", "[I", true)
  | 6 => ("BeforeItGoes$Day", "lasts", "[I", true)
  | 7 => ("BeforeItGoes$Day", "takes", "[I", true)
  | 8 => ("BeforeItGoes$Day", "begun", "[I", true)
  | 9 => ("BeforeItGoes$Day", "ripe", "[I", true)
  | 10 => ("BeforeItGoes$Day", "trowelled", "[I", true)
  | 11 => ("BeforeItGoes$Day", "off", "[I", true)
  | 12 => ("BeforeItGoes$Day", "put", "I", false)
  | 13 => ("BeforeItGoes$Day", "ended", "I", false)
  | 14 => ("BeforeItGoes$Day", "minute", "I", false)
  | 15 => ("BeforeItGoes$Day", "waited", "I", false)
  | _ => ("BeforeItGoes$Day", "bad", "I", false)
def tyX0 : Nat → FieldType := fun k => match k with
  | 0 => .object "BeforeItGoes$Site"
  | 1 => .array (.object "BeforeItGoes$Text")
  | 2 => .array .int
  | 3 => .array .int
  | 4 => .array .int
  | 5 => .array .int
  | 6 => .array .int
  | 7 => .array .int
  | 8 => .array .int
  | 9 => .array .int
  | 10 => .array .int
  | 11 => .array .int
  | 12 => .int
  | 13 => .int
  | 14 => .int
  | 15 => .int
  | _ => .int
abbrev wsX00 : List Cond := u_ws RX0 TX0 17
theorem nmX0 : ∀ a, a < 17 → ∀ b, b < 17 → a ≠ b → (TX0 a).2.1 ≠ (TX0 b).2.1 := by decide +kernel
theorem tyX0_ok : ∀ k, k < 17 → parseFieldDescriptor (TX0 k).2.2.1 = some (tyX0 k) := by decide +kernel
abbrev cX0_init : ByteArray := prog_2_method_1_code
def yX0_init : MethodName := ⟨RX0, "<init>", "([LBeforeItGoes$Text;)V"⟩
abbrev cX0_reckon : ByteArray := prog_2_method_2_code
def yX0_reckon : MethodName := ⟨RX0, "reckon", "()V"⟩
abbrev cX0_tells : ByteArray := prog_2_method_3_code
def yX0_tells : MethodName := ⟨RX0, "tells", "(III)I"⟩
abbrev cX0_place : ByteArray := prog_2_method_4_code
def yX0_place : MethodName := ⟨RX0, "place", "(II)V"⟩
abbrev cX0_live : ByteArray := prog_2_method_5_code
def yX0_live : MethodName := ⟨RX0, "live", "()V"⟩
abbrev cX0_dawn : ByteArray := prog_2_method_6_code
def yX0_dawn : MethodName := ⟨RX0, "dawn", "()V"⟩
abbrev cX0_firstRipe : ByteArray := prog_2_method_7_code
def yX0_firstRipe : MethodName := ⟨RX0, "firstRipe", "()I"⟩
abbrev cX0_trowel : ByteArray := prog_2_method_8_code
def yX0_trowel : MethodName := ⟨RX0, "trowel", "(I)V"⟩
abbrev cX0_mayBegin : ByteArray := prog_2_method_9_code
def yX0_mayBegin : MethodName := ⟨RX0, "mayBegin", "()Z"⟩
abbrev cX0_nextBegins : ByteArray := prog_2_method_10_code
def yX0_nextBegins : MethodName := ⟨RX0, "nextBegins", "()I"⟩
abbrev cX0_begin : ByteArray := prog_2_method_11_code
def yX0_begin : MethodName := ⟨RX0, "begin", "(I)V"⟩
abbrev cX0_waitOn : ByteArray := prog_2_method_12_code
def yX0_waitOn : MethodName := ⟨RX0, "waitOn", "()V"⟩
abbrev cX0_late : ByteArray := prog_2_method_13_code
def yX0_late : MethodName := ⟨RX0, "late", "()I"⟩
abbrev cX0_early : ByteArray := prog_2_method_14_code
def yX0_early : MethodName := ⟨RX0, "early", "()I"⟩
abbrev cX0_unlike : ByteArray := prog_2_method_15_code
def yX0_unlike : MethodName := ⟨RX0, "unlike", "(LBeforeItGoes$Sheet;)I"⟩
abbrev cX0_rowAsDigits : ByteArray := prog_2_method_16_code
def yX0_rowAsDigits : MethodName := ⟨RX0, "rowAsDigits", "()I"⟩
abbrev cX0_nextRow : ByteArray := prog_2_method_17_code
def yX0_nextRow : MethodName := ⟨RX0, "nextRow", "()Z"⟩
abbrev cX0_swap : ByteArray := prog_2_method_18_code
def yX0_swap : MethodName := ⟨RX0, "swap", "(II)V"⟩
def RX1 : String := "BeforeItGoes$Kind"
def TX1 : u_T := fun k => match k with
  | _ => ("", "", "", false)
def tyX1 : Nat → FieldType := fun k => match k with
  | _ => .int
abbrev wsX10 : List Cond := u_ws RX1 TX1 0
theorem nmX1 : ∀ a, a < 0 → ∀ b, b < 0 → a ≠ b → (TX1 a).2.1 ≠ (TX1 b).2.1 := by decide +kernel
theorem tyX1_ok : ∀ k, k < 0 → parseFieldDescriptor (TX1 k).2.2.1 = some (tyX1 k) := by decide +kernel
abbrev cX1_ripens : ByteArray := prog_3_method_2_code
def yX1_ripens : MethodName := ⟨RX1, "ripens", "(IIZI)I"⟩
abbrev cX1_lasts : ByteArray := prog_3_method_3_code
def yX1_lasts : MethodName := ⟨RX1, "lasts", "(II)I"⟩
abbrev cX1_takes : ByteArray := prog_3_method_4_code
def yX1_takes : MethodName := ⟨RX1, "takes", "(III)I"⟩
abbrev cX1_isUnder : ByteArray := prog_3_method_5_code
def yX1_isUnder : MethodName := ⟨RX1, "isUnder", "(II)Z"⟩
def RX2 : String := "BeforeItGoes$Pick"
def TX2 : u_T := fun k => match k with
  | 0 => ("BeforeItGoes$Pick", "any", "Z", false)
  | 1 => ("BeforeItGoes$Pick", "which", "I", false)
  | 2 => ("BeforeItGoes$Pick", "bad", "I", false)
  | _ => ("BeforeItGoes$Pick", "done", "I", false)
def tyX2 : Nat → FieldType := fun k => match k with
  | 0 => .boolean
  | 1 => .int
  | 2 => .int
  | _ => .int
abbrev wsX20 : List Cond := u_ws RX2 TX2 4
theorem nmX2 : ∀ a, a < 4 → ∀ b, b < 4 → a ≠ b → (TX2 a).2.1 ≠ (TX2 b).2.1 := by decide +kernel
theorem tyX2_ok : ∀ k, k < 4 → parseFieldDescriptor (TX2 k).2.2.1 = some (tyX2 k) := by decide +kernel
abbrev cX2_init : ByteArray := prog_4_method_1_code
def yX2_init : MethodName := ⟨RX2, "<init>", "()V"⟩
abbrev cX2_clear : ByteArray := prog_4_method_2_code
def yX2_clear : MethodName := ⟨RX2, "clear", "()V"⟩
abbrev cX2_offer : ByteArray := prog_4_method_3_code
def yX2_offer : MethodName := ⟨RX2, "offer", "(III)V"⟩
def RX3 : String := "BeforeItGoes$Reader"
def TX3 : u_T := fun k => match k with
  | 0 => ("BeforeItGoes$Reader", "tape", "LBeforeItGoes$Tape;", true)
  | 1 => ("BeforeItGoes$Reader", "draft", "LBeforeItGoes$Text;", true)
  | 2 => ("BeforeItGoes$Reader", "at", "I", false)
  | 3 => ("BeforeItGoes$Reader", "open", "I", false)
  | _ => ("BeforeItGoes$Reader", "fault", "I", false)
def tyX3 : Nat → FieldType := fun k => match k with
  | 0 => .object "BeforeItGoes$Tape"
  | 1 => .object "BeforeItGoes$Text"
  | 2 => .int
  | 3 => .int
  | _ => .int
abbrev wsX30 : List Cond := u_ws RX3 TX3 5
theorem nmX3 : ∀ a, a < 5 → ∀ b, b < 5 → a ≠ b → (TX3 a).2.1 ≠ (TX3 b).2.1 := by decide +kernel
theorem tyX3_ok : ∀ k, k < 5 → parseFieldDescriptor (TX3 k).2.2.1 = some (tyX3 k) := by decide +kernel
abbrev cX3_init : ByteArray := prog_5_method_1_code
def yX3_init : MethodName := ⟨RX3, "<init>", "(LBeforeItGoes$Tape;)V"⟩
abbrev cX3_read : ByteArray := prog_5_method_2_code
def yX3_read : MethodName := ⟨RX3, "read", "()I"⟩
abbrev cX3_is : ByteArray := prog_5_method_3_code
def yX3_is : MethodName := ⟨RX3, "is", "(I)Z"⟩
abbrev cX3_token : ByteArray := prog_5_method_4_code
def yX3_token : MethodName := ⟨RX3, "token", "()I"⟩
abbrev cX3_next : ByteArray := prog_5_method_5_code
def yX3_next : MethodName := ⟨RX3, "next", "()V"⟩
abbrev cX3_fail : ByteArray := prog_5_method_6_code
def yX3_fail : MethodName := ⟨RX3, "fail", "()V"⟩
abbrev cX3_expect : ByteArray := prog_5_method_7_code
def yX3_expect : MethodName := ⟨RX3, "expect", "(I)V"⟩
abbrev cX3_opens : ByteArray := prog_5_method_8_code
def yX3_opens : MethodName := ⟨RX3, "opens", "()Z"⟩
abbrev cX3_readE : ByteArray := prog_5_method_9_code
def yX3_readE : MethodName := ⟨RX3, "readE", "()V"⟩
abbrev cX3_readAnd : ByteArray := prog_5_method_10_code
def yX3_readAnd : MethodName := ⟨RX3, "readAnd", "()V"⟩
abbrev cX3_readNot : ByteArray := prog_5_method_11_code
def yX3_readNot : MethodName := ⟨RX3, "readNot", "()V"⟩
abbrev cX3_readCompared : ByteArray := prog_5_method_12_code
def yX3_readCompared : MethodName := ⟨RX3, "readCompared", "()V"⟩
abbrev cX3_readSum : ByteArray := prog_5_method_13_code
def yX3_readSum : MethodName := ⟨RX3, "readSum", "()V"⟩
abbrev cX3_readTerm : ByteArray := prog_5_method_14_code
def yX3_readTerm : MethodName := ⟨RX3, "readTerm", "()V"⟩
abbrev cX3_readOne : ByteArray := prog_5_method_15_code
def yX3_readOne : MethodName := ⟨RX3, "readOne", "()V"⟩
abbrev cX3_number : ByteArray := prog_5_method_16_code
def yX3_number : MethodName := ⟨RX3, "number", "()I"⟩
abbrev cX3_readMinus : ByteArray := prog_5_method_17_code
def yX3_readMinus : MethodName := ⟨RX3, "readMinus", "()V"⟩
abbrev cX3_readBracket : ByteArray := prog_5_method_18_code
def yX3_readBracket : MethodName := ⟨RX3, "readBracket", "()V"⟩
def RX4 : String := "BeforeItGoes$Sheet"
def TX4 : u_T := fun k => match k with
  | 0 => ("BeforeItGoes$Sheet", "items", "[I", true)
  | 1 => ("BeforeItGoes$Sheet", "sort", "I", false)
  | _ => ("BeforeItGoes$Sheet", "size", "I", false)
def tyX4 : Nat → FieldType := fun k => match k with
  | 0 => .array .int
  | 1 => .int
  | _ => .int
abbrev wsX40 : List Cond := u_ws RX4 TX4 3
theorem nmX4 : ∀ a, a < 3 → ∀ b, b < 3 → a ≠ b → (TX4 a).2.1 ≠ (TX4 b).2.1 := by decide +kernel
theorem tyX4_ok : ∀ k, k < 3 → parseFieldDescriptor (TX4 k).2.2.1 = some (tyX4 k) := by decide +kernel
abbrev cX4_init : ByteArray := prog_6_method_1_code
def yX4_init : MethodName := ⟨RX4, "<init>", "()V"⟩
abbrev cX4_isMissing : ByteArray := prog_6_method_2_code
def yX4_isMissing : MethodName := ⟨RX4, "isMissing", "()Z"⟩
abbrev cX4_has : ByteArray := prog_6_method_3_code
def yX4_has : MethodName := ⟨RX4, "has", "(I)Z"⟩
abbrev cX4_hasRun : ByteArray := prog_6_method_4_code
def yX4_hasRun : MethodName := ⟨RX4, "hasRun", "(II)Z"⟩
abbrev cX4_become : ByteArray := prog_6_method_5_code
def yX4_become : MethodName := ⟨RX4, "become", "(II)V"⟩
abbrev cX4_put : ByteArray := prog_6_method_6_code
def yX4_put : MethodName := ⟨RX4, "put", "(II)V"⟩
def RX5 : String := "BeforeItGoes$Site"
def TX5 : u_T := fun k => match k with
  | 0 => ("BeforeItGoes$Site", "dials", "[I", true)
  | 1 => ("BeforeItGoes$Site", "kinds", "[I", true)
  | 2 => ("BeforeItGoes$Site", "numbers", "[I", true)
  | 3 => ("BeforeItGoes$Site", "yards", "[I", true)
  | 4 => ("BeforeItGoes$Site", "wets", "[I", true)
  | 5 => ("BeforeItGoes$Site", "size", "I", false)
  | _ => ("BeforeItGoes$Site", "rule", "I", false)
def tyX5 : Nat → FieldType := fun k => match k with
  | 0 => .array .int
  | 1 => .array .int
  | 2 => .array .int
  | 3 => .array .int
  | 4 => .array .int
  | 5 => .int
  | _ => .int
abbrev wsX50 : List Cond := u_ws RX5 TX5 7
theorem nmX5 : ∀ a, a < 7 → ∀ b, b < 7 → a ≠ b → (TX5 a).2.1 ≠ (TX5 b).2.1 := by decide +kernel
theorem tyX5_ok : ∀ k, k < 7 → parseFieldDescriptor (TX5 k).2.2.1 = some (tyX5 k) := by decide +kernel
abbrev cX5_init : ByteArray := prog_7_method_1_code
def yX5_init : MethodName := ⟨RX5, "<init>", "()V"⟩
abbrev cX5_has : ByteArray := prog_7_method_2_code
def yX5_has : MethodName := ⟨RX5, "has", "(I)Z"⟩
abbrev cX5_turn : ByteArray := prog_7_method_3_code
def yX5_turn : MethodName := ⟨RX5, "turn", "(II)V"⟩
abbrev cX5_rowOf : ByteArray := prog_7_method_4_code
def yX5_rowOf : MethodName := ⟨RX5, "rowOf", "(I)[I"⟩
abbrev cX5_add : ByteArray := prog_7_method_5_code
def yX5_add : MethodName := ⟨RX5, "add", "(III)I"⟩
abbrev cX5_wetJust : ByteArray := prog_7_method_6_code
def yX5_wetJust : MethodName := ⟨RX5, "wetJust", "(I)V"⟩
abbrev cX5_become : ByteArray := prog_7_method_7_code
def yX5_become : MethodName := ⟨RX5, "become", "(LBeforeItGoes$Site;)V"⟩
def RX6 : String := "BeforeItGoes$Tape"
def TX6 : u_T := fun k => match k with
  | 0 => ("BeforeItGoes$Tape", "bytes", "[I", true)
  | 1 => ("BeforeItGoes$Tape", "size", "I", false)
  | 2 => ("BeforeItGoes$Tape", "tokens", "[I", true)
  | 3 => ("BeforeItGoes$Tape", "starts", "[I", true)
  | 4 => ("BeforeItGoes$Tape", "numbers", "[I", true)
  | _ => ("BeforeItGoes$Tape", "last", "I", false)
def tyX6 : Nat → FieldType := fun k => match k with
  | 0 => .array .int
  | 1 => .int
  | 2 => .array .int
  | 3 => .array .int
  | 4 => .array .int
  | _ => .int
abbrev wsX60 : List Cond := u_ws RX6 TX6 6
theorem nmX6 : ∀ a, a < 6 → ∀ b, b < 6 → a ≠ b → (TX6 a).2.1 ≠ (TX6 b).2.1 := by decide +kernel
theorem tyX6_ok : ∀ k, k < 6 → parseFieldDescriptor (TX6 k).2.2.1 = some (tyX6 k) := by decide +kernel
abbrev cX6_init : ByteArray := prog_8_method_1_code
def yX6_init : MethodName := ⟨RX6, "<init>", "()V"⟩
abbrev cX6_add : ByteArray := prog_8_method_2_code
def yX6_add : MethodName := ⟨RX6, "add", "(I)I"⟩
abbrev cX6_clear : ByteArray := prog_8_method_3_code
def yX6_clear : MethodName := ⟨RX6, "clear", "()V"⟩
abbrev cX6_cut : ByteArray := prog_8_method_4_code
def yX6_cut : MethodName := ⟨RX6, "cut", "()V"⟩
abbrev cX6_endOf : ByteArray := prog_8_method_5_code
def yX6_endOf : MethodName := ⟨RX6, "endOf", "(I)I"⟩
abbrev cX6_tokenOf : ByteArray := prog_8_method_6_code
def yX6_tokenOf : MethodName := ⟨RX6, "tokenOf", "(II)I"⟩
abbrev cX6_numberOf : ByteArray := prog_8_method_7_code
def yX6_numberOf : MethodName := ⟨RX6, "numberOf", "(II)I"⟩
abbrev cX6_spells : ByteArray := prog_8_method_8_code
def yX6_spells : MethodName := ⟨RX6, "spells", "(Ljava/lang/String;II)Z"⟩
abbrev cX6_isLetter : ByteArray := prog_8_method_9_code
def yX6_isLetter : MethodName := ⟨RX6, "isLetter", "(I)Z"⟩
abbrev cX6_isDigit : ByteArray := prog_8_method_10_code
def yX6_isDigit : MethodName := ⟨RX6, "isDigit", "(I)Z"⟩
abbrev cX6_wordOf : ByteArray := prog_8_method_11_code
def yX6_wordOf : MethodName := ⟨RX6, "wordOf", "(I)Ljava/lang/String;"⟩
def RX7 : String := "BeforeItGoes$Text"
def TX7 : u_T := fun k => match k with
  | 0 => ("BeforeItGoes$Text", "codes", "[I", true)
  | 1 => ("BeforeItGoes$Text", "ends", "[I", true)
  | _ => ("BeforeItGoes$Text", "size", "I", false)
def tyX7 : Nat → FieldType := fun k => match k with
  | 0 => .array .int
  | 1 => .array .int
  | _ => .int
abbrev wsX70 : List Cond := u_ws RX7 TX7 3
theorem nmX7 : ∀ a, a < 3 → ∀ b, b < 3 → a ≠ b → (TX7 a).2.1 ≠ (TX7 b).2.1 := by decide +kernel
theorem tyX7_ok : ∀ k, k < 3 → parseFieldDescriptor (TX7 k).2.2.1 = some (tyX7 k) := by decide +kernel
abbrev cX7_init : ByteArray := prog_9_method_1_code
def yX7_init : MethodName := ⟨RX7, "<init>", "()V"⟩
abbrev cX7_clear : ByteArray := prog_9_method_2_code
def yX7_clear : MethodName := ⟨RX7, "clear", "()V"⟩
abbrev cX7_add : ByteArray := prog_9_method_3_code
def yX7_add : MethodName := ⟨RX7, "add", "(I)V"⟩
abbrev cX7_endPart : ByteArray := prog_9_method_4_code
def yX7_endPart : MethodName := ⟨RX7, "endPart", "(I)V"⟩
abbrev cX7_become : ByteArray := prog_9_method_5_code
def yX7_become : MethodName := ⟨RX7, "become", "(LBeforeItGoes$Text;)V"⟩
abbrev cX7_value : ByteArray := prog_9_method_6_code
def yX7_value : MethodName := ⟨RX7, "value", "(I[I[I)I"⟩
abbrev cX7_joined : ByteArray := prog_9_method_7_code
def yX7_joined : MethodName := ⟨RX7, "joined", "(III)I"⟩
def RX8 : String := "BeforeItGoes"
def TX8 : u_T := fun k => match k with
  | 0 => ("BeforeItGoes", "site", "LBeforeItGoes$Site;", true)
  | 1 => ("BeforeItGoes", "keptSite", "LBeforeItGoes$Site;", true)
  | 2 => ("BeforeItGoes", "hasImage", "Z", false)
  | 3 => ("BeforeItGoes", "tape", "LBeforeItGoes$Tape;", true)
  | 4 => ("BeforeItGoes", "reader", "LBeforeItGoes$Reader;", true)
  | 5 => ("BeforeItGoes", "texts", "[LBeforeItGoes$Text;", true)
  | 6 => ("BeforeItGoes", "textCount", "I", false)
  | 7 => ("BeforeItGoes", "trial", "LBeforeItGoes$Day;", true)
  | 8 => ("BeforeItGoes", "pick", "LBeforeItGoes$Pick;", true)
  | _ => ("BeforeItGoes", "sheets", "[LBeforeItGoes$Sheet;", true)
def tyX8 : Nat → FieldType := fun k => match k with
  | 0 => .object "BeforeItGoes$Site"
  | 1 => .object "BeforeItGoes$Site"
  | 2 => .boolean
  | 3 => .object "BeforeItGoes$Tape"
  | 4 => .object "BeforeItGoes$Reader"
  | 5 => .array (.object "BeforeItGoes$Text")
  | 6 => .int
  | 7 => .object "BeforeItGoes$Day"
  | 8 => .object "BeforeItGoes$Pick"
  | _ => .array (.object "BeforeItGoes$Sheet")
abbrev wsX80 : List Cond := u_ws RX8 TX8 10
theorem nmX8 : ∀ a, a < 10 → ∀ b, b < 10 → a ≠ b → (TX8 a).2.1 ≠ (TX8 b).2.1 := by decide +kernel
theorem tyX8_ok : ∀ k, k < 10 → parseFieldDescriptor (TX8 k).2.2.1 = some (tyX8 k) := by decide +kernel
abbrev cX8_init : ByteArray := prog_1_method_1_code
def yX8_init : MethodName := ⟨RX8, "<init>", "()V"⟩
abbrev cX8_set : ByteArray := prog_1_method_2_code
def yX8_set : MethodName := ⟨RX8, "set", "(III)I"⟩
abbrev cX8_wall : ByteArray := prog_1_method_3_code
def yX8_wall : MethodName := ⟨RX8, "wall", "(III)I"⟩
abbrev cX8_told : ByteArray := prog_1_method_4_code
def yX8_told : MethodName := ⟨RX8, "told", "(II)I"⟩
abbrev cX8_reckoned : ByteArray := prog_1_method_5_code
def yX8_reckoned : MethodName := ⟨RX8, "reckoned", "(II)I"⟩
abbrev cX8_isKind : ByteArray := prog_1_method_6_code
def yX8_isKind : MethodName := ⟨RX8, "isKind", "(I)Z"⟩
abbrev cX8_feed : ByteArray := prog_1_method_7_code
def yX8_feed : MethodName := ⟨RX8, "feed", "(I)I"⟩
abbrev cX8_text : ByteArray := prog_1_method_8_code
def yX8_text : MethodName := ⟨RX8, "text", "()I"⟩
abbrev cX8_learn : ByteArray := prog_1_method_9_code
def yX8_learn : MethodName := ⟨RX8, "learn", "()I"⟩
abbrev cX8_force : ByteArray := prog_1_method_10_code
def yX8_force : MethodName := ⟨RX8, "force", "(I)I"⟩
abbrev cX8_day : ByteArray := prog_1_method_11_code
def yX8_day : MethodName := ⟨RX8, "day", "(I)I"⟩
abbrev cX8_order : ByteArray := prog_1_method_12_code
def yX8_order : MethodName := ⟨RX8, "order", "(II)I"⟩
abbrev cX8_startOrder : ByteArray := prog_1_method_13_code
def yX8_startOrder : MethodName := ⟨RX8, "startOrder", "(LBeforeItGoes$Sheet;)Z"⟩
abbrev cX8_isOfDay : ByteArray := prog_1_method_14_code
def yX8_isOfDay : MethodName := ⟨RX8, "isOfDay", "(I)Z"⟩
abbrev cX8_ofDay : ByteArray := prog_1_method_15_code
def yX8_ofDay : MethodName := ⟨RX8, "ofDay", "(I)I"⟩
abbrev cX8_ofWallsDay : ByteArray := prog_1_method_16_code
def yX8_ofWallsDay : MethodName := ⟨RX8, "ofWallsDay", "(II)I"⟩
abbrev cX8_startTrial : ByteArray := prog_1_method_17_code
def yX8_startTrial : MethodName := ⟨RX8, "startTrial", "()V"⟩
abbrev cX8_liveWith : ByteArray := prog_1_method_18_code
def yX8_liveWith : MethodName := ⟨RX8, "liveWith", "(II)V"⟩
abbrev cX8_best : ByteArray := prog_1_method_19_code
def yX8_best : MethodName := ⟨RX8, "best", "(I)I"⟩
abbrev cX8_good : ByteArray := prog_1_method_20_code
def yX8_good : MethodName := ⟨RX8, "good", "(II)I"⟩
abbrev cX8_wetting : ByteArray := prog_1_method_21_code
def yX8_wetting : MethodName := ⟨RX8, "wetting", "(II)I"⟩
abbrev cX8_alone : ByteArray := prog_1_method_22_code
def yX8_alone : MethodName := ⟨RX8, "alone", "()I"⟩
abbrev cX8_tooWarm : ByteArray := prog_1_method_23_code
def yX8_tooWarm : MethodName := ⟨RX8, "tooWarm", "()I"⟩
abbrev cX8_gains : ByteArray := prog_1_method_24_code
def yX8_gains : MethodName := ⟨RX8, "gains", "(I)I"⟩
abbrev cX8_buckets : ByteArray := prog_1_method_25_code
def yX8_buckets : MethodName := ⟨RX8, "buckets", "(II)I"⟩
abbrev cX8_books : ByteArray := prog_1_method_26_code
def yX8_books : MethodName := ⟨RX8, "books", "(II)I"⟩
abbrev cX8_warms : ByteArray := prog_1_method_27_code
def yX8_warms : MethodName := ⟨RX8, "warms", "(I)J"⟩
abbrev cX8_notSo : ByteArray := prog_1_method_28_code
def yX8_notSo : MethodName := ⟨RX8, "notSo", "(LBeforeItGoes$Sheet;)I"⟩
abbrev cX8_dialsOf : ByteArray := prog_1_method_29_code
def yX8_dialsOf : MethodName := ⟨RX8, "dialsOf", "(LBeforeItGoes$Sheet;I)J"⟩
abbrev cX8_textsOf : ByteArray := prog_1_method_30_code
def yX8_textsOf : MethodName := ⟨RX8, "textsOf", "(LBeforeItGoes$Sheet;)I"⟩
abbrev cX8_kindsOf : ByteArray := prog_1_method_31_code
def yX8_kindsOf : MethodName := ⟨RX8, "kindsOf", "(LBeforeItGoes$Sheet;I)I"⟩
abbrev cX8_film : ByteArray := prog_1_method_32_code
def yX8_film : MethodName := ⟨RX8, "film", "(I)I"⟩
abbrev cX8_drawn : ByteArray := prog_1_method_33_code
def yX8_drawn : MethodName := ⟨RX8, "drawn", "(I)I"⟩
abbrev cX8_chance : ByteArray := prog_1_method_34_code
def yX8_chance : MethodName := ⟨RX8, "chance", "(III)J"⟩
abbrev cX8_warmOf : ByteArray := prog_1_method_35_code
def yX8_warmOf : MethodName := ⟨RX8, "warmOf", "(I)I"⟩
abbrev cX8_commonDivisor : ByteArray := prog_1_method_36_code
def yX8_commonDivisor : MethodName := ⟨RX8, "commonDivisor", "(II)I"⟩
abbrev cX8_image : ByteArray := prog_1_method_37_code
def yX8_image : MethodName := ⟨RX8, "image", "()I"⟩
abbrev cX8_back : ByteArray := prog_1_method_38_code
def yX8_back : MethodName := ⟨RX8, "back", "()I"⟩
abbrev cX8_count : ByteArray := prog_1_method_39_code
def yX8_count : MethodName := ⟨RX8, "count", "(I)I"⟩
abbrev cX8_sheet : ByteArray := prog_1_method_40_code
def yX8_sheet : MethodName := ⟨RX8, "sheet", "(III)I"⟩
abbrev cX8_cell : ByteArray := prog_1_method_41_code
def yX8_cell : MethodName := ⟨RX8, "cell", "(III)I"⟩
abbrev cX8_copy : ByteArray := prog_1_method_42_code
def yX8_copy : MethodName := ⟨RX8, "copy", "(IIIII)I"⟩
abbrev cX8_walls : ByteArray := prog_1_method_43_code
def yX8_walls : MethodName := ⟨RX8, "walls", "(IIII)I"⟩
abbrev cX8_taken : ByteArray := prog_1_method_44_code
def yX8_taken : MethodName := ⟨RX8, "taken", "(II)I"⟩
abbrev cX8_sheetAt : ByteArray := prog_1_method_45_code
def yX8_sheetAt : MethodName := ⟨RX8, "sheetAt", "(I)LBeforeItGoes$Sheet;"⟩
def RX9 : String := "BeforeItGoesModel"
def TX9 : u_T := fun k => match k with
  | 0 => ("BeforeItGoesModel", "thrown", "I", false)
  | 1 => ("BeforeItGoesModel", "texts", "[I", true)
  | 2 => ("BeforeItGoesModel", "textSize", "[I", true)
  | 3 => ("BeforeItGoesModel", "textCount", "I", false)
  | 4 => ("BeforeItGoesModel", "rule", "I", false)
  | 5 => ("BeforeItGoesModel", "tape", "[I", true)
  | 6 => ("BeforeItGoesModel", "taped", "I", false)
  | 7 => ("BeforeItGoesModel", "plaster", "[I", true)
  | 8 => ("BeforeItGoesModel", "kinds", "[I", true)
  | 9 => ("BeforeItGoesModel", "numbers", "[I", true)
  | 10 => ("BeforeItGoesModel", "yardRow", "[I", true)
  | 11 => ("BeforeItGoesModel", "wets", "[I", true)
  | 12 => ("BeforeItGoesModel", "wallMany", "I", false)
  | 13 => ("BeforeItGoesModel", "ofWarm", "I", false)
  | 14 => ("BeforeItGoesModel", "ofAge", "I", false)
  | 15 => ("BeforeItGoesModel", "ofDirt", "I", false)
  | 16 => ("BeforeItGoesModel", "ofYards", "I", false)
  | 17 => ("BeforeItGoesModel", "ofOff", "I", false)
  | 18 => ("BeforeItGoesModel", "ofNumber", "I", false)
  | 19 => ("BeforeItGoesModel", "from", "I", false)
  | 20 => ("BeforeItGoesModel", "size", "I", false)
  | 21 => ("BeforeItGoesModel", "here", "I", false)
  | 22 => ("BeforeItGoesModel", "token", "I", false)
  | 23 => ("BeforeItGoesModel", "tokenAt", "I", false)
  | 24 => ("BeforeItGoesModel", "tokenWorth", "J", false)
  | 25 => ("BeforeItGoesModel", "open", "I", false)
  | 26 => ("BeforeItGoesModel", "bad", "Z", false)
  | 27 => ("BeforeItGoesModel", "fault", "I", false)
  | 28 => ("BeforeItGoesModel", "orderRow", "[I", true)
  | 29 => ("BeforeItGoesModel", "ordered", "I", false)
  | 30 => ("BeforeItGoesModel", "ripenRow", "[I", true)
  | 31 => ("BeforeItGoesModel", "lastRow", "[I", true)
  | 32 => ("BeforeItGoesModel", "takeRow", "[I", true)
  | 33 => ("BeforeItGoesModel", "begunAt", "[I", true)
  | 34 => ("BeforeItGoesModel", "ripeAt", "[I", true)
  | 35 => ("BeforeItGoesModel", "doneAt", "[I", true)
  | 36 => ("BeforeItGoesModel", "offBy", "[I", true)
  | 37 => ("BeforeItGoesModel", "minute", "I", false)
  | 38 => ("BeforeItGoesModel", "next", "I", false)
  | 39 => ("BeforeItGoesModel", "begunLast", "I", false)
  | 40 => ("BeforeItGoesModel", "waited", "I", false)
  | 41 => ("BeforeItGoesModel", "badness", "I", false)
  | 42 => ("BeforeItGoesModel", "bestBad", "I", false)
  | 43 => ("BeforeItGoesModel", "bestDone", "I", false)
  | 44 => ("BeforeItGoesModel", "bestDigits", "I", false)
  | 45 => ("BeforeItGoesModel", "plasterKept", "[I", true)
  | 46 => ("BeforeItGoesModel", "wallsKept", "[I", true)
  | 47 => ("BeforeItGoesModel", "manyKept", "I", false)
  | 48 => ("BeforeItGoesModel", "ruleKept", "I", false)
  | 49 => ("BeforeItGoesModel", "isThere", "[Z", true)
  | 50 => ("BeforeItGoesModel", "sorts", "[I", true)
  | 51 => ("BeforeItGoesModel", "sheetSize", "[I", true)
  | _ => ("BeforeItGoesModel", "items", "[I", true)
def tyX9 : Nat → FieldType := fun k => match k with
  | 0 => .int
  | 1 => .array .int
  | 2 => .array .int
  | 3 => .int
  | 4 => .int
  | 5 => .array .int
  | 6 => .int
  | 7 => .array .int
  | 8 => .array .int
  | 9 => .array .int
  | 10 => .array .int
  | 11 => .array .int
  | 12 => .int
  | 13 => .int
  | 14 => .int
  | 15 => .int
  | 16 => .int
  | 17 => .int
  | 18 => .int
  | 19 => .int
  | 20 => .int
  | 21 => .int
  | 22 => .int
  | 23 => .int
  | 24 => .long
  | 25 => .int
  | 26 => .boolean
  | 27 => .int
  | 28 => .array .int
  | 29 => .int
  | 30 => .array .int
  | 31 => .array .int
  | 32 => .array .int
  | 33 => .array .int
  | 34 => .array .int
  | 35 => .array .int
  | 36 => .array .int
  | 37 => .int
  | 38 => .int
  | 39 => .int
  | 40 => .int
  | 41 => .int
  | 42 => .int
  | 43 => .int
  | 44 => .int
  | 45 => .array .int
  | 46 => .array .int
  | 47 => .int
  | 48 => .int
  | 49 => .array .boolean
  | 50 => .array .int
  | 51 => .array .int
  | _ => .array .int
abbrev wsX90 : List Cond := u_ws RX9 TX9 53
theorem nmX9 : ∀ a, a < 53 → ∀ b, b < 53 → a ≠ b → (TX9 a).2.1 ≠ (TX9 b).2.1 := by decide +kernel
theorem tyX9_ok : ∀ k, k < 53 → parseFieldDescriptor (TX9 k).2.2.1 = some (tyX9 k) := by decide +kernel
abbrev cX9_in : ByteArray := prog_11_method_2_code
def yX9_in : MethodName := ⟨RX9, "in", "(JJJ)Z"⟩
abbrev cX9_within : ByteArray := prog_11_method_3_code
def yX9_within : MethodName := ⟨RX9, "within", "(III)I"⟩
abbrev cX9_bitsOf : ByteArray := prog_11_method_4_code
def yX9_bitsOf : MethodName := ⟨RX9, "bitsOf", "(I)I"⟩
abbrev cX9_init : ByteArray := prog_11_method_5_code
def yX9_init : MethodName := ⟨RX9, "<init>", "()V"⟩
abbrev cX9_spell : ByteArray := prog_11_method_6_code
def yX9_spell : MethodName := ⟨RX9, "spell", "(IIIIIIIII)V"⟩
abbrev cX9_isWall : ByteArray := prog_11_method_7_code
def yX9_isWall : MethodName := ⟨RX9, "isWall", "(I)Z"⟩
abbrev cX9_set : ByteArray := prog_11_method_8_code
def yX9_set : MethodName := ⟨RX9, "set", "(III)I"⟩
abbrev cX9_wall : ByteArray := prog_11_method_9_code
def yX9_wall : MethodName := ⟨RX9, "wall", "(III)I"⟩
abbrev cX9_told : ByteArray := prog_11_method_10_code
def yX9_told : MethodName := ⟨RX9, "told", "(II)I"⟩
abbrev cX9_feed : ByteArray := prog_11_method_11_code
def yX9_feed : MethodName := ⟨RX9, "feed", "(I)I"⟩
abbrev cX9_byteAt : ByteArray := prog_11_method_12_code
def yX9_byteAt : MethodName := ⟨RX9, "byteAt", "(I)I"⟩
abbrev cX9_next : ByteArray := prog_11_method_13_code
def yX9_next : MethodName := ⟨RX9, "next", "()V"⟩
abbrev cX9_fail : ByteArray := prog_11_method_14_code
def yX9_fail : MethodName := ⟨RX9, "fail", "()V"⟩
abbrev cX9_isLetter : ByteArray := prog_11_method_15_code
def yX9_isLetter : MethodName := ⟨RX9, "isLetter", "(II)Z"⟩
abbrev cX9_isWord : ByteArray := prog_11_method_16_code
def yX9_isWord : MethodName := ⟨RX9, "isWord", "(IIIIIIII)Z"⟩
abbrev cX9_isSign : ByteArray := prog_11_method_17_code
def yX9_isSign : MethodName := ⟨RX9, "isSign", "(I)Z"⟩
abbrev cX9_opens : ByteArray := prog_11_method_18_code
def yX9_opens : MethodName := ⟨RX9, "opens", "()Z"⟩
abbrev cX9_name : ByteArray := prog_11_method_19_code
def yX9_name : MethodName := ⟨RX9, "name", "()I"⟩
abbrev cX9_atom : ByteArray := prog_11_method_20_code
def yX9_atom : MethodName := ⟨RX9, "atom", "()I"⟩
abbrev cX9_term : ByteArray := prog_11_method_21_code
def yX9_term : MethodName := ⟨RX9, "term", "()I"⟩
abbrev cX9_added : ByteArray := prog_11_method_22_code
def yX9_added : MethodName := ⟨RX9, "added", "()I"⟩
abbrev cX9_not : ByteArray := prog_11_method_23_code
def yX9_not : MethodName := ⟨RX9, "not", "()I"⟩
abbrev cX9_both : ByteArray := prog_11_method_24_code
def yX9_both : MethodName := ⟨RX9, "both", "()I"⟩
abbrev cX9_either : ByteArray := prog_11_method_25_code
def yX9_either : MethodName := ⟨RX9, "either", "()I"⟩
abbrev cX9_part : ByteArray := prog_11_method_26_code
def yX9_part : MethodName := ⟨RX9, "part", "(Z)I"⟩
abbrev cX9_read : ByteArray := prog_11_method_27_code
def yX9_read : MethodName := ⟨RX9, "read", "(II)I"⟩
abbrev cX9_text : ByteArray := prog_11_method_28_code
def yX9_text : MethodName := ⟨RX9, "text", "()I"⟩
abbrev cX9_force : ByteArray := prog_11_method_29_code
def yX9_force : MethodName := ⟨RX9, "force", "(I)I"⟩
abbrev cX9_says : ByteArray := prog_11_method_30_code
def yX9_says : MethodName := ⟨RX9, "says", "(IIIII)I"⟩
abbrev cX9_ripensOf : ByteArray := prog_11_method_31_code
def yX9_ripensOf : MethodName := ⟨RX9, "ripensOf", "(I)I"⟩
abbrev cX9_lastsOf : ByteArray := prog_11_method_32_code
def yX9_lastsOf : MethodName := ⟨RX9, "lastsOf", "(I)I"⟩
abbrev cX9_takesOf : ByteArray := prog_11_method_33_code
def yX9_takesOf : MethodName := ⟨RX9, "takesOf", "(I)I"⟩
abbrev cX9_gathers : ByteArray := prog_11_method_34_code
def yX9_gathers : MethodName := ⟨RX9, "gathers", "()V"⟩
abbrev cX9_toTrowel : ByteArray := prog_11_method_35_code
def yX9_toTrowel : MethodName := ⟨RX9, "toTrowel", "()I"⟩
abbrev cX9_trowels : ByteArray := prog_11_method_36_code
def yX9_trowels : MethodName := ⟨RX9, "trowels", "(I)V"⟩
abbrev cX9_lives : ByteArray := prog_11_method_37_code
def yX9_lives : MethodName := ⟨RX9, "lives", "()V"⟩
abbrev cX9_begins : ByteArray := prog_11_method_38_code
def yX9_begins : MethodName := ⟨RX9, "begins", "(I)V"⟩
abbrev cX9_livesPlain : ByteArray := prog_11_method_39_code
def yX9_livesPlain : MethodName := ⟨RX9, "livesPlain", "(I)V"⟩
abbrev cX9_setOf : ByteArray := prog_11_method_40_code
def yX9_setOf : MethodName := ⟨RX9, "setOf", "(I)I"⟩
abbrev cX9_isTells : ByteArray := prog_11_method_41_code
def yX9_isTells : MethodName := ⟨RX9, "isTells", "(I)Z"⟩
abbrev cX9_tells : ByteArray := prog_11_method_42_code
def yX9_tells : MethodName := ⟨RX9, "tells", "(I)I"⟩
abbrev cX9_day : ByteArray := prog_11_method_43_code
def yX9_day : MethodName := ⟨RX9, "day", "(I)I"⟩
abbrev cX9_laysOrder : ByteArray := prog_11_method_44_code
def yX9_laysOrder : MethodName := ⟨RX9, "laysOrder", "(I)Z"⟩
abbrev cX9_order : ByteArray := prog_11_method_45_code
def yX9_order : MethodName := ⟨RX9, "order", "(II)I"⟩
abbrev cX9_triesFrom : ByteArray := prog_11_method_46_code
def yX9_triesFrom : MethodName := ⟨RX9, "triesFrom", "(II)V"⟩
abbrev cX9_best : ByteArray := prog_11_method_47_code
def yX9_best : MethodName := ⟨RX9, "best", "(I)I"⟩
abbrev cX9_good : ByteArray := prog_11_method_48_code
def yX9_good : MethodName := ⟨RX9, "good", "(II)I"⟩
abbrev cX9_wetting : ByteArray := prog_11_method_49_code
def yX9_wetting : MethodName := ⟨RX9, "wetting", "(II)I"⟩
abbrev cX9_wet : ByteArray := prog_11_method_50_code
def yX9_wet : MethodName := ⟨RX9, "wet", "(I)V"⟩
abbrev cX9_alone : ByteArray := prog_11_method_51_code
def yX9_alone : MethodName := ⟨RX9, "alone", "()I"⟩
abbrev cX9_livesBy : ByteArray := prog_11_method_52_code
def yX9_livesBy : MethodName := ⟨RX9, "livesBy", "(II)V"⟩
abbrev cX9_tooWarm : ByteArray := prog_11_method_53_code
def yX9_tooWarm : MethodName := ⟨RX9, "tooWarm", "()I"⟩
abbrev cX9_gains : ByteArray := prog_11_method_54_code
def yX9_gains : MethodName := ⟨RX9, "gains", "(I)I"⟩
abbrev cX9_buckets : ByteArray := prog_11_method_55_code
def yX9_buckets : MethodName := ⟨RX9, "buckets", "(II)I"⟩
abbrev cX9_isSo : ByteArray := prog_11_method_56_code
def yX9_isSo : MethodName := ⟨RX9, "isSo", "(I)Z"⟩
abbrev cX9_books : ByteArray := prog_11_method_57_code
def yX9_books : MethodName := ⟨RX9, "books", "(II)I"⟩
abbrev cX9_tellsSort : ByteArray := prog_11_method_58_code
def yX9_tellsSort : MethodName := ⟨RX9, "tellsSort", "(I)I"⟩
abbrev cX9_laysSort : ByteArray := prog_11_method_59_code
def yX9_laysSort : MethodName := ⟨RX9, "laysSort", "(II)V"⟩
abbrev cX9_warms : ByteArray := prog_11_method_60_code
def yX9_warms : MethodName := ⟨RX9, "warms", "(I)J"⟩
abbrev cX9_film : ByteArray := prog_11_method_61_code
def yX9_film : MethodName := ⟨RX9, "film", "(I)I"⟩
abbrev cX9_draws : ByteArray := prog_11_method_62_code
def yX9_draws : MethodName := ⟨RX9, "draws", "(I)V"⟩
abbrev cX9_drawn : ByteArray := prog_11_method_63_code
def yX9_drawn : MethodName := ⟨RX9, "drawn", "(I)I"⟩
abbrev cX9_chance : ByteArray := prog_11_method_64_code
def yX9_chance : MethodName := ⟨RX9, "chance", "(III)J"⟩
abbrev cX9_image : ByteArray := prog_11_method_65_code
def yX9_image : MethodName := ⟨RX9, "image", "()I"⟩
abbrev cX9_back : ByteArray := prog_11_method_66_code
def yX9_back : MethodName := ⟨RX9, "back", "()I"⟩
abbrev cX9_count : ByteArray := prog_11_method_67_code
def yX9_count : MethodName := ⟨RX9, "count", "(I)I"⟩
abbrev cX9_isSheet : ByteArray := prog_11_method_68_code
def yX9_isSheet : MethodName := ⟨RX9, "isSheet", "(I)Z"⟩
abbrev cX9_sheet : ByteArray := prog_11_method_69_code
def yX9_sheet : MethodName := ⟨RX9, "sheet", "(III)I"⟩
abbrev cX9_cell : ByteArray := prog_11_method_70_code
def yX9_cell : MethodName := ⟨RX9, "cell", "(III)I"⟩
abbrev cX9_copy : ByteArray := prog_11_method_71_code
def yX9_copy : MethodName := ⟨RX9, "copy", "(IIIII)I"⟩
abbrev cX9_walls : ByteArray := prog_11_method_72_code
def yX9_walls : MethodName := ⟨RX9, "walls", "(IIII)I"⟩
abbrev cX9_over : ByteArray := prog_11_method_73_code
def yX9_over : MethodName := ⟨RX9, "over", "(I)I"⟩
abbrev cX9_taken : ByteArray := prog_11_method_74_code
def yX9_taken : MethodName := ⟨RX9, "taken", "(II)I"⟩
def RJ11 : String := "java/lang/Character"
def TJ11 : u_T := fun k => match k with
  | _ => ("", "", "", false)
def tyJ11 : Nat → FieldType := fun k => match k with
  | _ => .int
abbrev wsJ110 : List Cond := u_ws RJ11 TJ11 0
theorem nmJ11 : ∀ a, a < 0 → ∀ b, b < 0 → a ≠ b → (TJ11 a).2.1 ≠ (TJ11 b).2.1 := by decide +kernel
theorem tyJ11_ok : ∀ k, k < 0 → parseFieldDescriptor (TJ11 k).2.2.1 = some (tyJ11 k) := by decide +kernel
abbrev cJ11_isValidCodePoint_9a6ad : ByteArray := prog_12_method_11_code
def yJ11_isValidCodePoint_9a6ad : MethodName := ⟨RJ11, "isValidCodePoint", "(I)Z"⟩
abbrev cJ11_highSurrogate_5068e : ByteArray := prog_12_method_28_code
def yJ11_highSurrogate_5068e : MethodName := ⟨RJ11, "highSurrogate", "(I)C"⟩
abbrev cJ11_lowSurrogate_5068e : ByteArray := prog_12_method_29_code
def yJ11_lowSurrogate_5068e : MethodName := ⟨RJ11, "lowSurrogate", "(I)C"⟩
def RJ6 : String := "java/lang/Integer"
def TJ6 : u_T := fun k => match k with
  | _ => ("", "", "", false)
def tyJ6 : Nat → FieldType := fun k => match k with
  | _ => .int
abbrev wsJ60 : List Cond := u_ws RJ6 TJ6 0
theorem nmJ6 : ∀ a, a < 0 → ∀ b, b < 0 → a ≠ b → (TJ6 a).2.1 ≠ (TJ6 b).2.1 := by decide +kernel
theorem tyJ6_ok : ∀ k, k < 0 → parseFieldDescriptor (TJ6 k).2.2.1 = some (tyJ6 k) := by decide +kernel
abbrev cJ6_bitCount_0f7a4 : ByteArray := prog_13_method_49_code
def yJ6_bitCount_0f7a4 : MethodName := ⟨RJ6, "bitCount", "(I)I"⟩
def RJ9 : String := "java/lang/Math"
def TJ9 : u_T := fun k => match k with
  | _ => ("", "", "", false)
def tyJ9 : Nat → FieldType := fun k => match k with
  | _ => .int
abbrev wsJ90 : List Cond := u_ws RJ9 TJ9 0
theorem nmJ9 : ∀ a, a < 0 → ∀ b, b < 0 → a ≠ b → (TJ9 a).2.1 ≠ (TJ9 b).2.1 := by decide +kernel
theorem tyJ9_ok : ∀ k, k < 0 → parseFieldDescriptor (TJ9 k).2.2.1 = some (tyJ9 k) := by decide +kernel
abbrev cJ9_max_7cf53 : ByteArray := prog_14_method_65_code
def yJ9_max_7cf53 : MethodName := ⟨RJ9, "max", "(II)I"⟩
abbrev cJ9_min_7cf53 : ByteArray := prog_14_method_69_code
def yJ9_min_7cf53 : MethodName := ⟨RJ9, "min", "(II)I"⟩
def RJ0 : String := "java/lang/String"
def TJ0 : u_T := fun k => match k with
  | _ => ("", "", "", false)
def tyJ0 : Nat → FieldType := fun k => match k with
  | _ => .int
abbrev wsJ00 : List Cond := u_ws RJ0 TJ0 0
theorem nmJ0 : ∀ a, a < 0 → ∀ b, b < 0 → a ≠ b → (TJ0 a).2.1 ≠ (TJ0 b).2.1 := by decide +kernel
theorem tyJ0_ok : ∀ k, k < 0 → parseFieldDescriptor (TJ0 k).2.2.1 = some (tyJ0 k) := by decide +kernel
abbrev cJ0_length_8abf5 : ByteArray := prog_15_method_54_code
def yJ0_length_8abf5 : MethodName := ⟨RJ0, "length", "()I"⟩
abbrev cJ0_charAt_5068e : ByteArray := prog_15_method_56_code
def yJ0_charAt_5068e : MethodName := ⟨RJ0, "charAt", "(I)C"⟩
abbrev cJ0_indexOf_0f7a4 : ByteArray := prog_15_method_79_code
def yJ0_indexOf_0f7a4 : MethodName := ⟨RJ0, "indexOf", "(I)I"⟩
abbrev cJ0_indexOf_7cf53 : ByteArray := prog_15_method_80_code
def yJ0_indexOf_7cf53 : MethodName := ⟨RJ0, "indexOf", "(II)I"⟩
abbrev cJ0_coder_7d493 : ByteArray := prog_15_method_152_code
def yJ0_coder_7d493 : MethodName := ⟨RJ0, "coder", "()B"⟩
abbrev cJ0_isLatin1_aae02 : ByteArray := prog_15_method_154_code
def yJ0_isLatin1_aae02 : MethodName := ⟨RJ0, "isLatin1", "()Z"⟩
abbrev cJ0_checkIndex_df160 : ByteArray := prog_15_method_155_code
def yJ0_checkIndex_df160 : MethodName := ⟨RJ0, "checkIndex", "(II)V"⟩
abbrev cJ0_checkBoundsBeginEnd_23922 : ByteArray := prog_15_method_158_code
def yJ0_checkBoundsBeginEnd_23922 : MethodName := ⟨RJ0, "checkBoundsBeginEnd", "(III)V"⟩
def RJ1 : String := "java/lang/StringLatin1"
def TJ1 : u_T := fun k => match k with
  | _ => ("", "", "", false)
def tyJ1 : Nat → FieldType := fun k => match k with
  | _ => .int
abbrev wsJ10 : List Cond := u_ws RJ1 TJ1 0
theorem nmJ1 : ∀ a, a < 0 → ∀ b, b < 0 → a ≠ b → (TJ1 a).2.1 ≠ (TJ1 b).2.1 := by decide +kernel
theorem tyJ1_ok : ∀ k, k < 0 → parseFieldDescriptor (TJ1 k).2.2.1 = some (tyJ1 k) := by decide +kernel
abbrev cJ1_charAt_3b067 : ByteArray := prog_16_method_2_code
def yJ1_charAt_3b067 : MethodName := ⟨RJ1, "charAt", "([BI)C"⟩
abbrev cJ1_canEncode_9a6ad : ByteArray := prog_16_method_4_code
def yJ1_canEncode_9a6ad : MethodName := ⟨RJ1, "canEncode", "(I)Z"⟩
abbrev cJ1_indexOf_4cfef : ByteArray := prog_16_method_22_code
def yJ1_indexOf_4cfef : MethodName := ⟨RJ1, "indexOf", "([BIII)I"⟩
abbrev cJ1_indexOfChar_4cfef : ByteArray := prog_16_method_23_code
def yJ1_indexOfChar_4cfef : MethodName := ⟨RJ1, "indexOfChar", "([BIII)I"⟩
def RJ2 : String := "java/lang/StringUTF16"
def TJ2 : u_T := fun k => match k with
  | _ => ("", "", "", false)
def tyJ2 : Nat → FieldType := fun k => match k with
  | _ => .int
abbrev wsJ20 : List Cond := u_ws RJ2 TJ2 0
theorem nmJ2 : ∀ a, a < 0 → ∀ b, b < 0 → a ≠ b → (TJ2 a).2.1 ≠ (TJ2 b).2.1 := by decide +kernel
theorem tyJ2_ok : ∀ k, k < 0 → parseFieldDescriptor (TJ2 k).2.2.1 = some (tyJ2 k) := by decide +kernel
abbrev cJ2_getChar_3b067 : ByteArray := prog_17_method_5_code
def yJ2_getChar_3b067 : MethodName := ⟨RJ2, "getChar", "([BI)C"⟩
abbrev cJ2_length_9d52b : ByteArray := prog_17_method_6_code
def yJ2_length_9d52b : MethodName := ⟨RJ2, "length", "([B)I"⟩
abbrev cJ2_indexOf_4cfef : ByteArray := prog_17_method_40_code
def yJ2_indexOf_4cfef : MethodName := ⟨RJ2, "indexOf", "([BIII)I"⟩
abbrev cJ2_indexOfChar_4cfef : ByteArray := prog_17_method_47_code
def yJ2_indexOfChar_4cfef : MethodName := ⟨RJ2, "indexOfChar", "([BIII)I"⟩
abbrev cJ2_indexOfCharUnsafe_4cfef : ByteArray := prog_17_method_48_code
def yJ2_indexOfCharUnsafe_4cfef : MethodName := ⟨RJ2, "indexOfCharUnsafe", "([BIII)I"⟩
abbrev cJ2_indexOfSupplementary_4cfef : ByteArray := prog_17_method_49_code
def yJ2_indexOfSupplementary_4cfef : MethodName := ⟨RJ2, "indexOfSupplementary", "([BIII)I"⟩
abbrev cJ2_charAt_3b067 : ByteArray := prog_17_method_83_code
def yJ2_charAt_3b067 : MethodName := ⟨RJ2, "charAt", "([BI)C"⟩
abbrev cJ2_checkIndex_2214a : ByteArray := prog_17_method_91_code
def yJ2_checkIndex_2214a : MethodName := ⟨RJ2, "checkIndex", "(I[B)V"⟩
abbrev cJ2_checkBoundsBeginEnd_d044e : ByteArray := prog_17_method_93_code
def yJ2_checkBoundsBeginEnd_d044e : MethodName := ⟨RJ2, "checkBoundsBeginEnd", "(II[B)V"⟩
def RJ10 : String := "java/lang/System"
def TJ10 : u_T := fun k => match k with
  | _ => ("", "", "", false)
def tyJ10 : Nat → FieldType := fun k => match k with
  | _ => .int
abbrev wsJ100 : List Cond := u_ws RJ10 TJ10 0
theorem nmJ10 : ∀ a, a < 0 → ∀ b, b < 0 → a ≠ b → (TJ10 a).2.1 ≠ (TJ10 b).2.1 := by decide +kernel
theorem tyJ10_ok : ∀ k, k < 0 → parseFieldDescriptor (TJ10 k).2.2.1 = some (tyJ10 k) := by decide +kernel
def RJ3 : String := "jdk/internal/util/Preconditions"
def TJ3 : u_T := fun k => match k with
  | _ => ("", "", "", false)
def tyJ3 : Nat → FieldType := fun k => match k with
  | _ => .int
abbrev wsJ30 : List Cond := u_ws RJ3 TJ3 0
theorem nmJ3 : ∀ a, a < 0 → ∀ b, b < 0 → a ≠ b → (TJ3 a).2.1 ≠ (TJ3 b).2.1 := by decide +kernel
theorem tyJ3_ok : ∀ k, k < 0 → parseFieldDescriptor (TJ3 k).2.2.1 = some (tyJ3 k) := by decide +kernel
abbrev cJ3_checkIndex_8e157 : ByteArray := prog_19_method_11_code
def yJ3_checkIndex_8e157 : MethodName := ⟨RJ3, "checkIndex", "(IILjava/util/function/BiFunction;)I"⟩
abbrev cJ3_checkFromToIndex_8c36e : ByteArray := prog_19_method_12_code
def yJ3_checkFromToIndex_8c36e : MethodName := ⟨RJ3, "checkFromToIndex", "(IIILjava/util/function/BiFunction;)I"⟩
def RL : String := "BeforeItGoesLaw"
abbrev cL_law : ByteArray := code
def yL_law : MethodName := ⟨RL, "law", "([I)Z"⟩
abbrev vwCl : List vw_C := [(RX0, TX0, 17), (RX2, TX2, 4), (RX3, TX3, 5), (RX4, TX4, 3), (RX5, TX5, 7), (RX6, TX6, 6), (RX7, TX7, 3), (RX8, TX8, 10), (RX9, TX9, 53)]
end
section
/-! ===== the frame: one memory of whole numbers, a fixed layout of cells, contracts over it ===== -/
def gt : List Cond := lw_tbl.filter goodWord
theorem gt_of {w : Cond} (i : Nat) (h : lw_tbl[i]? = some w) (g : goodWord w = true) : w ∈ gt := List.mem_filter.mpr ⟨List.mem_of_getElem? h, g⟩
theorem gt_good {ws : List Cond} (h : ∀ w ∈ ws, w ∈ gt) : GoodIn gt ws := fun w hw => ⟨h w hw, good_of_word (List.mem_filter.mp (h w hw)).2⟩
abbrev Mem : Type := Nat → Nat → Int32
def wr (M : Mem) (c k : Nat) (x : Int32) : Mem := fun a => if a = c then upd (M c) k x else M a
def wrA (M : Mem) (c : Nat) (f : Nat → Int32) : Mem := fun a => if a = c then f else M a
theorem wr_same (M : Mem) (c k : Nat) (x : Int32) : wr M c k x c k = x := by simp [wr, upd]
theorem wr_cell (M : Mem) (c k j : Nat) (x : Int32) (h : j ≠ k) : wr M c k x c j = M c j := by simp [wr, upd, h]
theorem wr_ne (M : Mem) (c k a : Nat) (x : Int32) (h : a ≠ c) : wr M c k x a = M a := by simp [wr, h]
theorem wrA_same (M : Mem) (c : Nat) (f : Nat → Int32) : wrA M c f c = f := by simp [wrA]
theorem wrA_ne (M : Mem) (c a : Nat) (f : Nat → Int32) (h : a ≠ c) : wrA M c f a = M a := by simp [wrA, h]
abbrev LD : Type := (Nat × List Nat) ⊕ (Nat × Nat × (Nat → Nat))
def fv (ad : Nat → Nat) (f : Nat → Int32) (k c : Nat) : Value := match c with
  | 0 => .int (f k)
  | 1 => .long (f k).toInt64
  | j + 2 => .ref (ad j)
def flds (ad : Nat → Nat) (f : Nat → Int32) (sp : List Nat) : List Value := sp.mapIdx (fun k c => fv ad f k c)
def arrR (ad : Nat → Nat) (f : Nat → Int32) (ty : Nat) (ch : Nat → Nat) : (Nat → Int32) ⊕ (Nat → Int64) ⊕ (Nat → UInt32) ⊕ (Nat → UInt64) ⊕ (Nat → Option Nat) := match ty with
  | 0 => .inl f
  | 1 => .inl f
  | _ => .inr (.inr (.inr (.inr fun j => some (ad (ch j)))))
/-- the launch, the classes, the arrays' classes, the addresses of the cells, what may be changed -/
abbrev XT : Type := Launch × va_G × (Nat → ClassId) × (Nat → Nat) × (Nat → Prop)
def ent (cy : Nat → ClassId) (ad : Nat → Nat) (f : Nat → Int32) : LD → va_E
  | .inl (ci, sp) => .inr (ci, flds ad f sp)
  | .inr (ty, len, ch) => .inl (cy ty, len, arrR ad f ty ch)
def wsO (L : List LD) (X : XT) (M : Mem) : va_W := L.mapIdx fun c d => (X.2.2.2.1 c, ent X.2.2.1 X.2.2.2.1 (M c) d)
def tysO (cy : Nat → ClassId) : List (ClassId × FieldType) := [(cy 0, .int), (cy 1, .boolean), (cy 2, .object "BeforeItGoes$Text"), (cy 3, .object "BeforeItGoes$Sheet")]
theorem wsO_at {L : List LD} {X : XT} {M : Mem} {c : Nat} {d : LD} (h : L[c]? = some d) : (wsO L X M)[c]? = some (X.2.2.2.1 c, ent X.2.2.1 X.2.2.2.1 (M c) d) := by
  simp [wsO, List.getElem?_mapIdx, h]
theorem flds_at {ad : Nat → Nat} {f : Nat → Int32} {sp : List Nat} {k c : Nat} (h : sp[k]? = some c) : (flds ad f sp)[k]? = some (fv ad f k c) := by
  simp [flds, List.getElem?_mapIdx, h]
theorem flds_len {ad : Nat → Nat} {f : Nat → Int32} {sp : List Nat} {k c : Nat} (h : sp[k]? = some c) : k < (flds ad f sp).length := by
  have := (List.getElem?_eq_some_iff.mp h).1
  simpa [flds] using this
theorem flds_set {ad : Nat → Nat} {f : Nat → Int32} {sp : List Nat} {k c : Nat} {x : Int32} {v : Value} (h : sp[k]? = some c) (hv : fv ad (upd f k x) k c = v) (hc : c < 2) : (flds ad f sp).set k v = flds ad (upd f k x) sp := by
  apply List.ext_getElem?
  intro i
  by_cases hi : i = k
  · subst hi
    rw [List.getElem?_set_self (flds_len h), flds_at h, hv]
  · rw [List.getElem?_set_ne (fun e => hi e.symm)]
    simp only [flds, List.getElem?_mapIdx]
    cases hs : sp[i]? with
    | none => rfl
    | some d =>
      simp only [Option.map_some]
      congr 1
      unfold fv
      split <;> simp [upd, hi]
theorem wsO_set {L : List LD} {X : XT} {M M' : Mem} {c : Nat} {d : LD} {e : va_E} (h : L[c]? = some d) (he : ent X.2.2.1 X.2.2.2.1 (M' c) d = e) (hM : ∀ a, a ≠ c → M' a = M a) : (wsO L X M).set c (X.2.2.2.1 c, e) = wsO L X M' := by
  apply List.ext_getElem?
  intro i
  by_cases hi : i = c
  · subst hi
    rw [List.getElem?_set_self (by have := (List.getElem?_eq_some_iff.mp h).1; simpa [wsO] using this), wsO_at h, he]
  · rw [List.getElem?_set_ne (fun e => hi e.symm)]
    simp only [wsO, List.getElem?_mapIdx]
    cases hs : L[i]? with
    | none => rfl
    | some d =>
      simp only [Option.map_some]
      rw [hM i hi]
theorem wsO_put {L : List LD} {X : XT} {M : Mem} {c ci k cd : Nat} {sp : List Nat} {x : Int32} {v : Value} (h : L[c]? = some (.inl (ci, sp))) (hk : sp[k]? = some cd) (hv : fv X.2.2.2.1 (upd (M c) k x) k cd = v) (hc : cd < 2) : (wsO L X M).set c (X.2.2.2.1 c, .inr (ci, (flds X.2.2.2.1 (M c) sp).set k v)) = wsO L X (wr M c k x) := by
  refine wsO_set h ?_ (fun a ha => wr_ne M c k a x ha)
  show Sum.inr (ci, flds X.2.2.2.1 (wr M c k x c) sp) = _
  rw [flds_set hk hv hc]
  congr 3
  simp [wr]
theorem wsO_st {L : List LD} {X : XT} {M : Mem} {c ty n k : Nat} {ch : Nat → Nat} {x : Int32} (h : L[c]? = some (.inr (ty, n, ch))) (ht : ty < 2) : (wsO L X M).set c (X.2.2.2.1 c, .inl (X.2.2.1 ty, n, .inl (upd (M c) k x))) = wsO L X (wr M c k x) := by
  refine wsO_set h ?_ (fun a ha => wr_ne M c k a x ha)
  have e : wr M c k x c = upd (M c) k x := by simp [wr]
  rw [e]
  match ty, ht with
  | 0, _ => rfl
  | 1, _ => rfl
theorem wsO_stA {L : List LD} {X : XT} {M : Mem} {c ty n : Nat} {ch : Nat → Nat} {f : Nat → Int32} (h : L[c]? = some (.inr (ty, n, ch))) (ht : ty < 2) : (wsO L X M).set c (X.2.2.2.1 c, .inl (X.2.2.1 ty, n, .inl f)) = wsO L X (wrA M c f) := by
  refine wsO_set h ?_ (fun a ha => wrA_ne M c a f ha)
  rw [wrA_same]
  match ty, ht with
  | 0, _ => rfl
  | 1, _ => rfl
def AD (L : List LD) (X : XT) : Prop := (∀ i j : Nat, i < L.length → j < L.length → X.2.2.2.1 i = X.2.2.2.1 j → i = j) ∧ ∀ i : Nat, i < L.length → X.2.2.2.2 (X.2.2.2.1 i)
theorem wsO_ad {L : List LD} {X : XT} {M : Mem} {k : Nat} {q : Nat × va_E} (h : (wsO L X M)[k]? = some q) : k < L.length ∧ q.1 = X.2.2.2.1 k := by
  simp only [wsO, List.getElem?_mapIdx] at h
  cases hs : L[k]? with
  | none => rw [hs] at h; cases h
  | some d =>
    rw [hs] at h
    cases h
    exact ⟨(List.getElem?_eq_some_iff.mp hs).1, rfl⟩
theorem AD.D {L : List LD} {X : XT} (h : AD L X) (M : Mem) : va_D X.2.2.2.2 (wsO L X M) := by
  refine ⟨fun i j p q hp hq e => ?_, fun k q hq => ?_⟩
  · obtain ⟨h1, h2⟩ := wsO_ad hp
    obtain ⟨h3, h4⟩ := wsO_ad hq
    exact h.1 i j h1 h3 (by rw [← h2, ← h4, e])
  · obtain ⟨h1, h2⟩ := wsO_ad hq
    rw [h2]
    exact h.2 k h1
/-- the statics that the class reads: four tables, the literals -/
def tnm (j : Nat) : String := match j with
  | 0 => "LEAST"
  | 1 => "MOST"
  | 2 => "PART_LEAST"
  | _ => "PART_MOST"
def tab (j : Nat) : List Int32 := match j with
  | 0 => [0, 0, 0, 1, 0, 0, 0, 1, 0]
  | 1 => [40, 9, 9, 2, 60, 20, 9, 20, 1]
  | 2 => [1, 1, 0]
  | _ => [240, 20, 999]
def tb (j : Nat) (i : Nat) : Int32 := (tab j).getD i 0
def nS : Nat := 14
def lenS : List Nat := [76, 8, 4, 3, 4, 5, 3, 6, 6, 5, 6, 2, 3, 3]
def bytS : List (List Int32) := [[114, 105, 112, 101, 110, 115, 32, 54, 48, 32, 45, 32, 119, 97, 114, 109, 32, 45, 32, 100, 105, 114, 116, 32, 42, 32, 52, 32, 45, 32, 97, 103, 101, 32, 42, 32, 50, 32, 59, 32, 116, 97, 107, 101, 115, 32, 50, 32, 59, 32, 115, 112, 111, 105, 108, 115, 32, 111, 102, 102, 32, 42, 32, 111, 102, 102, 32, 42, 32, 121, 97, 114, 100, 115, 32, 59], [40, 41, 59, 43, 45, 42, 60, 61], [119, 97, 114, 109], [97, 103, 101], [100, 105, 114, 116], [121, 97, 114, 100, 115], [111, 102, 102], [110, 117, 109, 98, 101, 114], [114, 105, 112, 101, 110, 115], [116, 97, 107, 101, 115], [115, 112, 111, 105, 108, 115], [111, 114], [97, 110, 100], [110, 111, 116]]
def whS : List (String × Nat × String) := [("BeforeItGoes", 73, "ripens 60 - warm - dirt * 4 - age * 2 ; takes 2 ; spoils off * off * yards ;"), ("BeforeItGoes$Tape", 49, "();+-*<="), ("BeforeItGoes$Tape", 72, "warm"), ("BeforeItGoes$Tape", 74, "age"), ("BeforeItGoes$Tape", 76, "dirt"), ("BeforeItGoes$Tape", 78, "yards"), ("BeforeItGoes$Tape", 80, "off"), ("BeforeItGoes$Tape", 82, "number"), ("BeforeItGoes$Tape", 84, "ripens"), ("BeforeItGoes$Tape", 86, "takes"), ("BeforeItGoes$Tape", 88, "spoils"), ("BeforeItGoes$Tape", 90, "or"), ("BeforeItGoes$Tape", 92, "and"), ("BeforeItGoes$Tape", 94, "not")]
def St (X : XT) (U : State) (H : Heap) : Prop :=
  (∀ j : Nat, j < 4 → va_Z "BeforeItGoes" (tnm j) "[I" (.ref (X.2.2.2.1 (1000 + j))) X.2.2.2.2 U H ∧ va_T .int (X.2.2.2.1 (1000 + j)) (tab j).length (fun i => .int (tb j i)) X.2.2.2.2 U H) ∧
  vk_S nS lenS bytS (fun i => X.2.2.2.1 (2000 + i)) (fun i => X.2.2.2.1 (3000 + i)) X.2.2.2.2 U H ∧
  (∀ (i : Nat) (q : String × Nat × String), whS[i]? = some q → vk_R q.1 q.2.1 q.2.2 (X.2.2.2.1 (2000 + i)) U) ∧
  va_Z "java/lang/String" "COMPACT_STRINGS" "Z" (.int 1) X.2.2.2.2 U H
theorem St.kept {X : XT} {U : State} {H H1 : Heap} (h : St X U H) (hq : ∀ a : Nat, a < H.size → ¬ X.2.2.2.2 a → H1[a]? = H[a]?) : St X U H1 :=
  ⟨fun j hj => ⟨(h.1 j hj).1.kept hq, (h.1 j hj).2.kept hq⟩, h.2.1.kept hq, h.2.2.1, h.2.2.2.kept hq⟩
theorem St.warm {X : XT} {s U : State} {H : Heap} (hW : s.WarmedH U.vm) (h : St X s H) : St X U H :=
  ⟨fun j hj => ⟨(h.1 j hj).1.moved hW.alike, (h.1 j hj).2.moved hW.alike⟩, h.2.1.moved hW.alike, fun i q hq => vk_R.warm hW (h.2.2.1 i q hq), h.2.2.2.moved hW.alike⟩
theorem St.same {X : XT} {u U : State} {H : Heap} (hv : U.vm = u.vm) (h : St X u H) : St X U H :=
  ⟨fun j hj => ⟨(h.1 j hj).1.moved (by rw [hv]; exact Vm.Alike.refl _), (h.1 j hj).2.moved (by rw [hv]; exact Vm.Alike.refl _)⟩, h.2.1.moved (by rw [hv]; exact Vm.Alike.refl _), fun i q hq => vk_R.same hv (h.2.2.1 i q hq), h.2.2.2.moved (by rw [hv]; exact Vm.Alike.refl _)⟩
abbrev rm (d : Nat) : Room := { frames := d, cells := 0, slots := 0, locals := 40 * d }
def Pre (L : List LD) (X : XT) (M : Mem) : State → Prop := fun U => va_P X.2.1 vwCl (wsO L X M) U.heap ∧ va_K X.2.1 vwCl (tysO X.2.2.1) U ∧ St X U U.heap ∧ AD L X
def Qo (L : List LD) (X : XT) (v : Option Value) (M : Mem) : Array Value → State → Outcome → State → Prop := fun _ st o t => o = .returned v ∧ va_P X.2.1 vwCl (wsO L X M) t.heap ∧ va_F X.2.2.2.2 st t
/-- a method's contract: from the memory M it comes to the memory M', and answers v -/
def CT (L : List LD) (X : XT) (d : Nat) (y : MethodName) (b : ByteArray) (nL : Nat) (ret : Option FieldType) (args : List Value) (M M' : Mem) (v : Option Value) : Prop :=
  Met X.1 y (.code y b nL ret :: gt) (rm d) (va_Pc args (Pre L X M)) (Qo L X v M') 0 0 X.2.2.2.2
/-- the machine in a method: program, environment, state at its start, method, arguments, what is below, its code, the room, cells and slots that are made -/
abbrev MT : Type := Program × Env × State × MethodId × Array Value × List Frame × Method × Code × Room × Nat × Nat
def Kx (L : List LD) (X : XT) (Γ : MT) (own : String) (b : ByteArray) (nL d : Nat) (ret : Option FieldType) : Prop :=
  Γ.1.tables.exec = Jvm.exec ∧ Γ.2.2.2.2.2.2.2.1.code = b ∧ Γ.2.2.2.2.2.2.1.sig.returnType = ret ∧ (∀ w ∈ gt, w.before Γ.2.2.2.2.1 Γ.2.2.1 = true) ∧ Γ.2.2.1.vm.findClass own = some Γ.2.2.2.1.cls ∧ Γ.2.2.2.2.2.2.1.locks = false ∧ Γ.2.2.2.2.2.2.2.1.maxLocals = nL ∧
  va_K X.2.1 vwCl (tysO X.2.2.1) Γ.2.2.1 ∧ St X Γ.2.2.1 Γ.2.2.1.heap ∧ AD L X ∧ d ≤ Γ.2.2.2.2.2.2.2.2.1.frames ∧ 40 * d ≤ Γ.2.2.2.2.2.2.2.2.1.locals ∧ Γ.2.2.2.2.2.2.2.2.2.1 ≤ Γ.2.2.2.2.2.2.2.2.1.cells ∧ Γ.2.2.2.2.2.2.2.2.2.2 ≤ Γ.2.2.2.2.2.2.2.2.1.slots
def G (L : List LD) (X : XT) (Γ : MT) (nL : Nat) (Q : State → Prop) (pc : Nat) (lv : List (Nat × Value)) (st : List Value) (M : Mem) : Prop :=
  ∀ (H : Heap) (locs : List Loc) (ls : Array Slot), lv_has ls nL lv → va_P X.2.1 vwCl (wsO L X M) H → va_S X.2.2.2.2 Γ.2.2.1.heap H locs → W Γ.1 X.1 Γ.2.1 Γ.2.2.2.2.2.2.2.2.1 Γ.2.2.1 Γ.2.2.2.1 Γ.2.2.2.2.1 Γ.2.2.2.2.2.1 Γ.2.2.2.2.2.2.1 Γ.2.2.2.2.2.2.2.1 H locs Γ.2.2.2.2.2.2.2.2.2.1 Γ.2.2.2.2.2.2.2.2.2.2 Q (F0 Γ.2.2.2.1 pc ls st)
def QM (L : List LD) (X : XT) (Γ : MT) (v : Option Value) (M : Mem) : State → Prop := MQ Γ.2.2.2.2.2.1 (Qo L X v M) Γ.2.2.2.2.1 Γ.2.2.1 Γ.2.2.2.2.2.2.2.2.2.1 Γ.2.2.2.2.2.2.2.2.2.2 X.2.2.2.2
set_option maxHeartbeats 1000000 in
theorem CT.of {L : List LD} {X : XT} {d : Nat} {y : MethodName} {b : ByteArray} {nL : Nat} {ret : Option FieldType} {args : List Value} {M M' : Mem} {v : Option Value} {lv : List (Nat × Value)} (hy : plainName y.cls = true) (hn : (lg_sl args).length ≤ nL) (hlv : lv_args 0 args = lv)
    (k : ∀ Γ : MT, Kx L X Γ y.cls b nL d ret → G L X Γ nL (QM L X Γ v M') 0 lv [] M) : CT L X d y b nL ret args M M' v := by
  refine Met.ofW (cc := b) (maxL := nL) (ret := ret) hy rfl ?_
  intro p e s m as below meth c s₁ B hml hv
  obtain ⟨rfl, hP, hK, hS, hA⟩ := hv
  have hts : ∀ w ∈ gt, w.before args.toArray s = true := fun w hw => atoms_spec (ws := .code y b nL ret :: gt) B.pre w (List.mem_cons_of_mem _ hw)
  have hl := lv_entry args (n := nL) hn
  rw [lg_entry_eq]
  rw [hlv] at hl
  exact k (p, e, s, m, args.toArray, below, meth, c, rm d, 0, 0) ⟨B.exec, B.bytes, B.returns, hts, findClass_of_methodNamed B.named, B.notSynchronized, hml, hK, hS, hA, Nat.le_refl _, Nat.le_refl _, Nat.le_refl _, Nat.le_refl _⟩ s.heap [] _ hl hP va_S.rf
end
section
/-! ===== rows over G: an instruction, a row; h carries what is still to be done ===== -/
def bnd {α β : Type} (x : α) (f : α → β) : β := f x
def ck {β : Type} (i : Int32) (n : Nat) (x : Option β) : Option β := if i < 0 ∨ n ≤ i.toNatClampNeg then none else x
def nz {β : Type} (y : Int32) (x : Option β) : Option β := if y = 0 then none else x
def nzL {β : Type} (y : Int64) (x : Option β) : Option β := if y = 0 then none else x
def rq {β : Type} (c : Prop) [Decidable c] (x : Option β) : Option β := if c then x else none
def ob {α β : Type} (x : Option α) (k : α → Option β) : Option β := match x with
  | none => none
  | some a => k a
def ob2 {α γ β : Type} (x : Option (α × γ)) (k : α → γ → Option β) : Option β := match x with
  | none => none
  | some (a, c) => k a c
def jp {α β : Type} (k : α) (f : α → β) : β := f k
def b2i (b : Bool) : Int32 := if b = true then 1 else 0
def imax (x y : Int32) : Int32 := if x < y then y else x
def imin (x y : Int32) : Int32 := if y < x then y else x
theorem ck_e {β : Type} {i : Int32} {n : Nat} {x : Option β} {r : β} (h : ck i n x = some r) : vp_in i n ∧ x = some r := by
  unfold ck at h
  split at h
  · cases h
  · exact ⟨by assumption, h⟩
theorem nz_e {β : Type} {y : Int32} {x : Option β} {r : β} (h : nz y x = some r) : ¬ y = 0 ∧ x = some r := by
  unfold nz at h
  split at h
  · cases h
  · exact ⟨by assumption, h⟩
theorem nzL_e {β : Type} {y : Int64} {x : Option β} {r : β} (h : nzL y x = some r) : ¬ y = 0 ∧ x = some r := by
  unfold nzL at h
  split at h
  · cases h
  · exact ⟨by assumption, h⟩
theorem rq_e {β : Type} {c : Prop} [Decidable c] {x : Option β} {r : β} (h : rq c x = some r) : c ∧ x = some r := by
  unfold rq at h
  split at h
  · exact ⟨by assumption, h⟩
  · cases h
theorem ob_e {α β : Type} {x : Option α} {k : α → Option β} {r : β} (h : ob x k = some r) : ∃ a, x = some a ∧ k a = some r := by
  cases x with
  | none => cases h
  | some a => exact ⟨a, rfl, h⟩
theorem ob2_e {α γ β : Type} {x : Option (α × γ)} {k : α → γ → Option β} {r : β} (h : ob2 x k = some r) : ∃ a c, x = some (a, c) ∧ k a c = some r := by
  cases x with
  | none => cases h
  | some q => exact ⟨q.1, q.2, rfl, h⟩
theorem ite_e {β : Type} {c : Prop} [Decidable c] {a b : Option β} {r : β} (h : (if c then a else b) = some r) : (c → a = some r) ∧ (¬ c → b = some r) :=
  ⟨fun z => by rw [if_pos z] at h; exact h, fun z => by rw [if_neg z] at h; exact h⟩
def st1 (i : Nat) (v : Value) (lv : List (Nat × Value)) : List (Nat × Value) := (i, v) :: lv.filter (fun q => !(q.1 == i) && !(q.1 + 1 == i && q.2.category == 2))
def st2 (i : Nat) (v : Value) (lv : List (Nat × Value)) : List (Nat × Value) := (i, v) :: lv.filter (fun q => !(q.1 == i) && (!(q.1 == i + 1) && !(q.1 + 1 == i && q.2.category == 2)))
/-- a field of an object of class number ci: the link of index idx in class own is its k-th -/
def FL (own : String) (idx ci k : Nat) : Prop := ∃ (C : String) (T : u_T) (N : Nat), vwCl[ci]? = some (C, T, N) ∧ k < N ∧ (∀ w ∈ u_ws C T N, w ∈ gt) ∧ (Cond.fieldLink own idx (T k).1 (T k).2.1 (T k).2.2.1 ∈ gt ∨ ∃ host : String, Cond.fieldLinkNest own idx (T k).1 (T k).2.1 (T k).2.2.1 host ∈ gt)
/-- .. and it may be written, being of type ty -/
def FP (own : String) (idx ci k : Nat) (ty : FieldType) : Prop := ∃ (C : String) (T : u_T) (N : Nat) (ty0 : Nat → FieldType), vwCl[ci]? = some (C, T, N) ∧ k < N ∧ (∀ w ∈ u_ws C T N, w ∈ gt) ∧ (Cond.fieldLink own idx (T k).1 (T k).2.1 (T k).2.2.1 ∈ gt ∨ ∃ host : String, Cond.fieldLinkNest own idx (T k).1 (T k).2.1 (T k).2.2.1 host ∈ gt) ∧ (∀ j, j < N → parseFieldDescriptor (T j).2.2.1 = some (ty0 j)) ∧ (∀ a, a < N → ∀ b, b < N → a ≠ b → (T a).2.1 ≠ (T b).2.1) ∧ (T k).2.2.2 = false ∧ parseFieldDescriptor (T k).2.2.1 = some ty
/-- a call of a method of an object -/
def MV (own : String) (idx : Nat) (y : MethodName) (b : ByteArray) (nL : Nat) (ret : Option FieldType) (n : Nat) : Prop :=
  (Cond.methodLink own idx y ∈ gt ∨ ∃ host : String, Cond.methodLinkNest own idx y host ∈ gt) ∧ Cond.instanceMethod y ∈ gt ∧ Cond.selects y.cls y y ∈ gt ∧ Cond.initialized y.cls ∈ gt ∧ Cond.code y b nL ret ∈ gt ∧ (y.cls ≠ "java/lang/invoke/MethodHandle" ∧ y.cls ≠ "java/lang/invoke/VarHandle" ∧ (parseMethodDescriptor y.desc).map (fun d => d.parameters.length) = some n) ∧ nL ≤ 20
/-- a call of a static method -/
def MS (own : String) (idx : Nat) (y : MethodName) (b : ByteArray) (nL : Nat) (ret : Option FieldType) (n : Nat) : Prop :=
  (Cond.methodLink own idx y ∈ gt ∨ ∃ host : String, Cond.methodLinkNest own idx y host ∈ gt) ∧ Cond.static y ∈ gt ∧ Cond.initialized y.cls ∈ gt ∧ Cond.code y b nL ret ∈ gt ∧ (y.cls ≠ "java/lang/invoke/MethodHandle" ∧ y.cls ≠ "java/lang/invoke/VarHandle" ∧ (parseMethodDescriptor y.desc).map (fun d => d.parameters.length) = some n) ∧ nL ≤ 20
section ROWS
variable {L : List LD} {X : XT} {Γ : MT} {own : String} {b : ByteArray} {nL d : Nat} {ret : Option FieldType} {Q : State → Prop} {pc : Nat} {lv : List (Nat × Value)} {st : List Value} {M : Mem}
theorem Kx.ex (K : Kx L X Γ own b nL d ret) : Γ.1.tables.exec = Jvm.exec := K.1
theorem Kx.cd (K : Kx L X Γ own b nL d ret) : Γ.2.2.2.2.2.2.2.1.code = b := K.2.1
theorem Kx.rt (K : Kx L X Γ own b nL d ret) : Γ.2.2.2.2.2.2.1.sig.returnType = ret := K.2.2.1
theorem Kx.ts (K : Kx L X Γ own b nL d ret) : ∀ w ∈ gt, w.before Γ.2.2.2.2.1 Γ.2.2.1 = true := K.2.2.2.1
theorem Kx.ow (K : Kx L X Γ own b nL d ret) : Γ.2.2.1.vm.findClass own = some Γ.2.2.2.1.cls := K.2.2.2.2.1
theorem Kx.lk (K : Kx L X Γ own b nL d ret) : Γ.2.2.2.2.2.2.1.locks = false := K.2.2.2.2.2.1
theorem Kx.ml (K : Kx L X Γ own b nL d ret) : Γ.2.2.2.2.2.2.2.1.maxLocals = nL := K.2.2.2.2.2.2.1
theorem Kx.kk (K : Kx L X Γ own b nL d ret) : va_K X.2.1 vwCl (tysO X.2.2.1) Γ.2.2.1 := K.2.2.2.2.2.2.2.1
theorem Kx.sta (K : Kx L X Γ own b nL d ret) : St X Γ.2.2.1 Γ.2.2.1.heap := K.2.2.2.2.2.2.2.2.1
theorem Kx.ad (K : Kx L X Γ own b nL d ret) : AD L X := K.2.2.2.2.2.2.2.2.2.1
theorem Kx.fr (K : Kx L X Γ own b nL d ret) : d ≤ Γ.2.2.2.2.2.2.2.2.1.frames := K.2.2.2.2.2.2.2.2.2.2.1
theorem Kx.lo (K : Kx L X Γ own b nL d ret) : 40 * d ≤ Γ.2.2.2.2.2.2.2.2.1.locals := K.2.2.2.2.2.2.2.2.2.2.2.1
theorem Kx.ce (K : Kx L X Γ own b nL d ret) : Γ.2.2.2.2.2.2.2.2.2.1 ≤ Γ.2.2.2.2.2.2.2.2.1.cells := K.2.2.2.2.2.2.2.2.2.2.2.2.1
theorem Kx.sl (K : Kx L X Γ own b nL d ret) : Γ.2.2.2.2.2.2.2.2.2.2 ≤ Γ.2.2.2.2.2.2.2.2.1.slots := K.2.2.2.2.2.2.2.2.2.2.2.2.2
theorem g_iconst (K : Kx L X Γ own b nL d ret) {n : Int} {v : Int32} (hv : Int32.ofInt n = v) (hd : decode b pc = .ok (.iconst n, 1)) (k : G L X Γ nL Q (pc + 1) lv (.int v :: st) M) : G L X Γ nL Q pc lv st M :=
  fun H locs ls hl hP hS => lv_iconst K.ex K.cd hd hv (k H locs ls hl hP hS)
theorem g_bipush (K : Kx L X Γ own b nL d ret) {n : Int} {v : Int32} (hv : (Int8.ofInt n).toInt32 = v) (hd : decode b pc = .ok (.bipush n, 2)) (k : G L X Γ nL Q (pc + 2) lv (.int v :: st) M) : G L X Γ nL Q pc lv st M :=
  fun H locs ls hl hP hS => lv_bipush K.ex K.cd hd hv (k H locs ls hl hP hS)
theorem g_sipush (K : Kx L X Γ own b nL d ret) {n : Int} {v : Int32} (hv : (Int16.ofInt n).toInt32 = v) (hd : decode b pc = .ok (.sipush n, 3)) (k : G L X Γ nL Q (pc + 3) lv (.int v :: st) M) : G L X Γ nL Q pc lv st M :=
  fun H locs ls hl hP hS => lv_sipush K.ex K.cd hd hv (k H locs ls hl hP hS)
theorem g_lconst (K : Kx L X Γ own b nL d ret) {n : Fin 2} {v : Int64} (hv : Int64.ofNat (n : Nat) = v) (hd : decode b pc = .ok (.lconst n, 1)) (k : G L X Γ nL Q (pc + 1) lv (.long v :: st) M) : G L X Γ nL Q pc lv st M :=
  fun H locs ls hl hP hS => lv_lconst K.ex K.cd hd hv (k H locs ls hl hP hS)
theorem g_ldc (K : Kx L X Γ own b nL d ret) {idx : Nat} {v : Int32} (hw : Cond.constant own idx v ∈ gt) (hd : decode b pc = .ok (.ldc idx, 2)) (k : G L X Γ nL Q (pc + 2) lv (.int v :: st) M) : G L X Γ nL Q pc lv st M :=
  fun H locs ls hl hP hS => lv_ldc K.ex K.cd K.ow (K.ts _ hw) hd (k H locs ls hl hP hS)
theorem g_ldcw (K : Kx L X Γ own b nL d ret) {idx : Nat} {v : Int32} (hw : Cond.constant own idx v ∈ gt) (hd : decode b pc = .ok (.ldc_w idx, 3)) (k : G L X Γ nL Q (pc + 3) lv (.int v :: st) M) : G L X Γ nL Q pc lv st M :=
  fun H locs ls hl hP hS => lv_ldcw K.ex K.cd K.ow (K.ts _ hw) hd (k H locs ls hl hP hS)
theorem g_ldc2 (K : Kx L X Γ own b nL d ret) {idx : Nat} {v : Int64} (hw : Cond.constantLong own idx v ∈ gt) (hd : decode b pc = .ok (.ldc2_w idx, 3)) (k : G L X Γ nL Q (pc + 3) lv (.long v :: st) M) : G L X Γ nL Q pc lv st M :=
  fun H locs ls hl hP hS => lv_ldc2 K.ex K.cd K.ow (K.ts _ hw) hd (k H locs ls hl hP hS)
theorem g_iload_n (K : Kx L X Γ own b nL d ret) {kf : Fin 4} {x : Int32} (q : Nat) (hq : lv[q]? = some ((kf : Nat), .int x)) (hd : decode b pc = .ok (.iload_n kf, 1)) (k : G L X Γ nL Q (pc + 1) lv (.int x :: st) M) : G L X Γ nL Q pc lv st M :=
  fun H locs ls hl hP hS => lv_iload_n K.ex K.cd hd rfl (lv_at hl q hq) (k H locs ls hl hP hS)
theorem g_iload (K : Kx L X Γ own b nL d ret) {i : Nat} {x : Int32} (q : Nat) (hq : lv[q]? = some (i, .int x)) (hd : decode b pc = .ok (.iload i, 2)) (k : G L X Γ nL Q (pc + 2) lv (.int x :: st) M) : G L X Γ nL Q pc lv st M :=
  fun H locs ls hl hP hS => lv_iload K.ex K.cd hd (lv_at hl q hq) (k H locs ls hl hP hS)
theorem g_lload_n (K : Kx L X Γ own b nL d ret) {kf : Fin 4} {x : Int64} (q : Nat) (hq : lv[q]? = some ((kf : Nat), .long x)) (hd : decode b pc = .ok (.lload_n kf, 1)) (k : G L X Γ nL Q (pc + 1) lv (.long x :: st) M) : G L X Γ nL Q pc lv st M :=
  fun H locs ls hl hP hS => lv_lload_n K.ex K.cd hd rfl (lv_at hl q hq) (k H locs ls hl hP hS)
theorem g_lload (K : Kx L X Γ own b nL d ret) {i : Nat} {x : Int64} (q : Nat) (hq : lv[q]? = some (i, .long x)) (hd : decode b pc = .ok (.lload i, 2)) (k : G L X Γ nL Q (pc + 2) lv (.long x :: st) M) : G L X Γ nL Q pc lv st M :=
  fun H locs ls hl hP hS => lv_lload K.ex K.cd hd (lv_at hl q hq) (k H locs ls hl hP hS)
theorem g_aload_n (K : Kx L X Γ own b nL d ret) {kf : Fin 4} {x : Nat} (q : Nat) (hq : lv[q]? = some ((kf : Nat), .ref x)) (hd : decode b pc = .ok (.aload_n kf, 1)) (k : G L X Γ nL Q (pc + 1) lv (.ref x :: st) M) : G L X Γ nL Q pc lv st M :=
  fun H locs ls hl hP hS => lv_aload_n K.ex K.cd hd rfl (lv_at hl q hq) (k H locs ls hl hP hS)
theorem g_aload (K : Kx L X Γ own b nL d ret) {i : Nat} {x : Nat} (q : Nat) (hq : lv[q]? = some (i, .ref x)) (hd : decode b pc = .ok (.aload i, 2)) (k : G L X Γ nL Q (pc + 2) lv (.ref x :: st) M) : G L X Γ nL Q pc lv st M :=
  fun H locs ls hl hP hS => lv_aload K.ex K.cd hd (lv_at hl q hq) (k H locs ls hl hP hS)
theorem g_istore_n (K : Kx L X Γ own b nL d ret) {kf : Fin 4} {i : Nat} {x : Int32} {lv' : List (Nat × Value)} (hd : decode b pc = .ok (.istore_n kf, 1)) (hi : (kf : Nat) = i) (hn : i < nL) (hlv : st1 i (.int x) lv = lv') (k : G L X Γ nL Q (pc + 1) lv' st M) : G L X Γ nL Q pc lv (.int x :: st) M :=
  fun H locs ls hl hP hS => lv_istore_n K.ex K.cd hd hi hl hn hlv (fun ls' hl' => k H locs ls' hl' hP hS)
theorem g_istore (K : Kx L X Γ own b nL d ret) {i : Nat} {x : Int32} {lv' : List (Nat × Value)} (hd : decode b pc = .ok (.istore i, 2)) (hn : i < nL) (hlv : st1 i (.int x) lv = lv') (k : G L X Γ nL Q (pc + 2) lv' st M) : G L X Γ nL Q pc lv (.int x :: st) M :=
  fun H locs ls hl hP hS => lv_istore K.ex K.cd hd hl hn hlv (fun ls' hl' => k H locs ls' hl' hP hS)
theorem g_lstore_n (K : Kx L X Γ own b nL d ret) {kf : Fin 4} {i : Nat} {x : Int64} {lv' : List (Nat × Value)} (hd : decode b pc = .ok (.lstore_n kf, 1)) (hi : (kf : Nat) = i) (hn : i + 1 < nL) (hlv : st2 i (.long x) lv = lv') (k : G L X Γ nL Q (pc + 1) lv' st M) : G L X Γ nL Q pc lv (.long x :: st) M :=
  fun H locs ls hl hP hS => lv_lstore_n K.ex K.cd hd hi hl hn hlv (fun ls' hl' => k H locs ls' hl' hP hS)
theorem g_lstore (K : Kx L X Γ own b nL d ret) {i : Nat} {x : Int64} {lv' : List (Nat × Value)} (hd : decode b pc = .ok (.lstore i, 2)) (hn : i + 1 < nL) (hlv : st2 i (.long x) lv = lv') (k : G L X Γ nL Q (pc + 2) lv' st M) : G L X Γ nL Q pc lv (.long x :: st) M :=
  fun H locs ls hl hP hS => lv_lstore K.ex K.cd hd hl hn hlv (fun ls' hl' => k H locs ls' hl' hP hS)
theorem g_astore_n (K : Kx L X Γ own b nL d ret) {kf : Fin 4} {i : Nat} {x : Nat} {lv' : List (Nat × Value)} (hd : decode b pc = .ok (.astore_n kf, 1)) (hi : (kf : Nat) = i) (hn : i < nL) (hlv : st1 i (.ref x) lv = lv') (k : G L X Γ nL Q (pc + 1) lv' st M) : G L X Γ nL Q pc lv (.ref x :: st) M :=
  fun H locs ls hl hP hS => lv_astore_n K.ex K.cd hd hi hl hn hlv (fun ls' hl' => k H locs ls' hl' hP hS)
theorem g_astore (K : Kx L X Γ own b nL d ret) {i : Nat} {x : Nat} {lv' : List (Nat × Value)} (hd : decode b pc = .ok (.astore i, 2)) (hn : i < nL) (hlv : st1 i (.ref x) lv = lv') (k : G L X Γ nL Q (pc + 2) lv' st M) : G L X Γ nL Q pc lv (.ref x :: st) M :=
  fun H locs ls hl hP hS => lv_astore K.ex K.cd hd hl hn hlv (fun ls' hl' => k H locs ls' hl' hP hS)
theorem g_iinc (K : Kx L X Γ own b nL d ret) {i : Nat} {n : Int} {x v : Int32} {lv' : List (Nat × Value)} (q : Nat) (hq : lv[q]? = some (i, .int x)) (hv : x + Int32.ofInt n = v) (hd : decode b pc = .ok (.iinc i n, 3)) (hn : i < nL) (hlv : st1 i (.int v) lv = lv') (k : G L X Γ nL Q (pc + 3) lv' st M) : G L X Γ nL Q pc lv st M :=
  fun H locs ls hl hP hS => lv_iinc K.ex K.cd hd hl hq hv hn hlv (fun ls' hl' => k H locs ls' hl' hP hS)
theorem g_sub {lv' : List (Nat × Value)} (ks : List Nat) (hlv : lv_pick lv ks = lv') (k : G L X Γ nL Q pc lv' st M) : G L X Γ nL Q pc lv st M :=
  fun H locs ls hl hP hS => k H locs ls (lv_sub hl ks hlv) hP hS
theorem g_nmi {ρ : Type} {res : ρ} {e : Int32} {f : Int32 → Option ρ} (h : bnd e f = some res) (k : ∀ v : Int32, f v = some res → G L X Γ nL Q pc lv (.int v :: st) M) : G L X Γ nL Q pc lv (.int e :: st) M := k e h
theorem g_nml {ρ : Type} {res : ρ} {e : Int64} {f : Int64 → Option ρ} (h : bnd e f = some res) (k : ∀ v : Int64, f v = some res → G L X Γ nL Q pc lv (.long v :: st) M) : G L X Γ nL Q pc lv (.long e :: st) M := k e h
theorem g_iadd (K : Kx L X Γ own b nL d ret) {x y : Int32}  (hd : decode b pc = .ok (.iadd, 1)) (k : G L X Γ nL Q (pc + 1) lv (.int (x + y) :: st) M) : G L X Γ nL Q pc lv (.int y :: .int x :: st) M :=
  fun H locs ls hl hP hS => lv_iadd K.ex K.cd hd  (k H locs ls hl hP hS)
theorem g_isub (K : Kx L X Γ own b nL d ret) {x y : Int32}  (hd : decode b pc = .ok (.isub, 1)) (k : G L X Γ nL Q (pc + 1) lv (.int (x - y) :: st) M) : G L X Γ nL Q pc lv (.int y :: .int x :: st) M :=
  fun H locs ls hl hP hS => lv_isub K.ex K.cd hd  (k H locs ls hl hP hS)
theorem g_imul (K : Kx L X Γ own b nL d ret) {x y : Int32}  (hd : decode b pc = .ok (.imul, 1)) (k : G L X Γ nL Q (pc + 1) lv (.int (x * y) :: st) M) : G L X Γ nL Q pc lv (.int y :: .int x :: st) M :=
  fun H locs ls hl hP hS => lv_imul K.ex K.cd hd  (k H locs ls hl hP hS)
theorem g_iand (K : Kx L X Γ own b nL d ret) {x y : Int32}  (hd : decode b pc = .ok (.iand, 1)) (k : G L X Γ nL Q (pc + 1) lv (.int (x &&& y) :: st) M) : G L X Γ nL Q pc lv (.int y :: .int x :: st) M :=
  fun H locs ls hl hP hS => lv_iand K.ex K.cd hd  (k H locs ls hl hP hS)
theorem g_ior (K : Kx L X Γ own b nL d ret) {x y : Int32}  (hd : decode b pc = .ok (.ior, 1)) (k : G L X Γ nL Q (pc + 1) lv (.int (x ||| y) :: st) M) : G L X Γ nL Q pc lv (.int y :: .int x :: st) M :=
  fun H locs ls hl hP hS => lv_ior K.ex K.cd hd  (k H locs ls hl hP hS)
theorem g_ishl (K : Kx L X Γ own b nL d ret) {x y : Int32}  (hd : decode b pc = .ok (.ishl, 1)) (k : G L X Γ nL Q (pc + 1) lv (.int (x <<< (y &&& 31)) :: st) M) : G L X Γ nL Q pc lv (.int y :: .int x :: st) M :=
  fun H locs ls hl hP hS => lv_ishl K.ex K.cd hd  (k H locs ls hl hP hS)
theorem g_ishr (K : Kx L X Γ own b nL d ret) {x y : Int32}  (hd : decode b pc = .ok (.ishr, 1)) (k : G L X Γ nL Q (pc + 1) lv (.int (x >>> (y &&& 31)) :: st) M) : G L X Γ nL Q pc lv (.int y :: .int x :: st) M :=
  fun H locs ls hl hP hS => lv_ishr K.ex K.cd hd  (k H locs ls hl hP hS)
theorem g_ladd (K : Kx L X Γ own b nL d ret) {x y : Int64}  (hd : decode b pc = .ok (.ladd, 1)) (k : G L X Γ nL Q (pc + 1) lv (.long (x + y) :: st) M) : G L X Γ nL Q pc lv (.long y :: .long x :: st) M :=
  fun H locs ls hl hP hS => lv_ladd K.ex K.cd hd  (k H locs ls hl hP hS)
theorem g_lsub (K : Kx L X Γ own b nL d ret) {x y : Int64}  (hd : decode b pc = .ok (.lsub, 1)) (k : G L X Γ nL Q (pc + 1) lv (.long (x - y) :: st) M) : G L X Γ nL Q pc lv (.long y :: .long x :: st) M :=
  fun H locs ls hl hP hS => lv_lsub K.ex K.cd hd  (k H locs ls hl hP hS)
theorem g_lmul (K : Kx L X Γ own b nL d ret) {x y : Int64}  (hd : decode b pc = .ok (.lmul, 1)) (k : G L X Γ nL Q (pc + 1) lv (.long (x * y) :: st) M) : G L X Γ nL Q pc lv (.long y :: .long x :: st) M :=
  fun H locs ls hl hP hS => lv_lmul K.ex K.cd hd  (k H locs ls hl hP hS)
theorem g_lor (K : Kx L X Γ own b nL d ret) {x y : Int64}  (hd : decode b pc = .ok (.lor, 1)) (k : G L X Γ nL Q (pc + 1) lv (.long (x ||| y) :: st) M) : G L X Γ nL Q pc lv (.long y :: .long x :: st) M :=
  fun H locs ls hl hP hS => lv_lor K.ex K.cd hd  (k H locs ls hl hP hS)
theorem g_ineg (K : Kx L X Γ own b nL d ret) {x : Int32}  (hd : decode b pc = .ok (.ineg, 1)) (k : G L X Γ nL Q (pc + 1) lv (.int (-x) :: st) M) : G L X Γ nL Q pc lv (.int x :: st) M :=
  fun H locs ls hl hP hS => lv_ineg K.ex K.cd hd  (k H locs ls hl hP hS)
theorem g_idiv (K : Kx L X Γ own b nL d ret) {x y : Int32} (hy : ¬ y = 0) (hd : decode b pc = .ok (.idiv, 1)) (k : G L X Γ nL Q (pc + 1) lv (.int (x / y) :: st) M) : G L X Γ nL Q pc lv (.int y :: .int x :: st) M :=
  fun H locs ls hl hP hS => lv_idiv K.ex K.cd hd hy (k H locs ls hl hP hS)
theorem g_irem (K : Kx L X Γ own b nL d ret) {x y : Int32} (hy : ¬ y = 0) (hd : decode b pc = .ok (.irem, 1)) (k : G L X Γ nL Q (pc + 1) lv (.int (x - x / y * y) :: st) M) : G L X Γ nL Q pc lv (.int y :: .int x :: st) M :=
  fun H locs ls hl hP hS => lv_irem K.ex K.cd hd hy (k H locs ls hl hP hS)
theorem g_ldiv (K : Kx L X Γ own b nL d ret) {x y : Int64} (hy : ¬ y = 0) (hd : decode b pc = .ok (.ldiv, 1)) (k : G L X Γ nL Q (pc + 1) lv (.long (x / y) :: st) M) : G L X Γ nL Q pc lv (.long y :: .long x :: st) M :=
  fun H locs ls hl hP hS => lv_ldiv K.ex K.cd hd hy (k H locs ls hl hP hS)
theorem g_lrem (K : Kx L X Γ own b nL d ret) {x y : Int64} (hy : ¬ y = 0) (hd : decode b pc = .ok (.lrem, 1)) (k : G L X Γ nL Q (pc + 1) lv (.long (x - x / y * y) :: st) M) : G L X Γ nL Q pc lv (.long y :: .long x :: st) M :=
  fun H locs ls hl hP hS => lv_lrem K.ex K.cd hd hy (k H locs ls hl hP hS)
theorem g_i2l (K : Kx L X Γ own b nL d ret) {x : Int32} (hd : decode b pc = .ok (.i2l, 1)) (k : G L X Γ nL Q (pc + 1) lv (.long x.toInt64 :: st) M) : G L X Γ nL Q pc lv (.int x :: st) M :=
  fun H locs ls hl hP hS => lv_i2l K.ex K.cd hd rfl (k H locs ls hl hP hS)
theorem g_l2i (K : Kx L X Γ own b nL d ret) {x : Int64} (hd : decode b pc = .ok (.l2i, 1)) (k : G L X Γ nL Q (pc + 1) lv (.int x.toInt32 :: st) M) : G L X Γ nL Q pc lv (.long x :: st) M :=
  fun H locs ls hl hP hS => lv_l2i K.ex K.cd hd rfl (k H locs ls hl hP hS)
theorem g_i2b (K : Kx L X Γ own b nL d ret) {x : Int32} (hd : decode b pc = .ok (.i2b, 1)) (k : G L X Γ nL Q (pc + 1) lv (.int x.toInt8.toInt32 :: st) M) : G L X Γ nL Q pc lv (.int x :: st) M :=
  fun H locs ls hl hP hS => lv_i2b K.ex K.cd hd rfl (k H locs ls hl hP hS)
theorem g_i2s (K : Kx L X Γ own b nL d ret) {x : Int32} (hd : decode b pc = .ok (.i2s, 1)) (k : G L X Γ nL Q (pc + 1) lv (.int x.toInt16.toInt32 :: st) M) : G L X Γ nL Q pc lv (.int x :: st) M :=
  fun H locs ls hl hP hS => lv_i2s K.ex K.cd hd rfl (k H locs ls hl hP hS)
theorem g_iushr (K : Kx L X Γ own b nL d ret) {x y : Int32} (hd : decode b pc = .ok (.iushr, 1)) (k : G L X Γ nL Q (pc + 1) lv (.int (x.toUInt32 >>> (y.toUInt32 &&& Int32.toUInt32 31)).toInt32 :: st) M) : G L X Γ nL Q pc lv (.int y :: .int x :: st) M :=
  fun H locs ls hl hP hS => lv_iushr K.ex K.cd hd rfl (k H locs ls hl hP hS)
theorem g_lshl (K : Kx L X Γ own b nL d ret) {x : Int64} {y : Int32} (hd : decode b pc = .ok (.lshl, 1)) (k : G L X Γ nL Q (pc + 1) lv (.long (x <<< (y.toInt64 &&& 63)) :: st) M) : G L X Γ nL Q pc lv (.int y :: .long x :: st) M :=
  fun H locs ls hl hP hS => lv_lshl K.ex K.cd hd rfl (k H locs ls hl hP hS)
theorem g_lcmp (K : Kx L X Γ own b nL d ret) {x y : Int64} (hd : decode b pc = .ok (.lcmp, 1)) (k : G L X Γ nL Q (pc + 1) lv (.int (lg_cmp x y) :: st) M) : G L X Γ nL Q pc lv (.long y :: .long x :: st) M :=
  fun H locs ls hl hP hS => W.lcmp K.ex K.cd hd (k H locs ls hl hP hS)
theorem g_dup (K : Kx L X Γ own b nL d ret) {v : Value} (hv : v.category = 1) (hd : decode b pc = .ok (.dup, 1)) (k : G L X Γ nL Q (pc + 1) lv (v :: v :: st) M) : G L X Γ nL Q pc lv (v :: st) M :=
  fun H locs ls hl hP hS => lv_dup K.ex K.cd hd hv (k H locs ls hl hP hS)
theorem g_pop (K : Kx L X Γ own b nL d ret) {v : Value} (hv : v.category = 1) (hd : decode b pc = .ok (.pop, 1)) (k : G L X Γ nL Q (pc + 1) lv st M) : G L X Γ nL Q pc lv (v :: st) M :=
  fun H locs ls hl hP hS => lv_pop K.ex K.cd hd hv (k H locs ls hl hP hS)
theorem g_goto (K : Kx L X Γ own b nL d ret) {off : Int} {tgt : Nat} (ht : (pc : Int) + off = (tgt : Int)) (hd : decode b pc = .ok (.goto off, 3)) (k : G L X Γ nL Q tgt lv st M) : G L X Γ nL Q pc lv st M :=
  fun H locs ls hl hP hS => lv_goto K.ex K.cd hd ht (k H locs ls hl hP hS)
theorem g_icmp_eq (K : Kx L X Γ own b nL d ret) {x y : Int32} {off : Int} {tgt : Nat} {ρ : Type} {res : ρ} {A B : Option ρ} (ht : (pc : Int) + off = (tgt : Int)) (hd : decode b pc = .ok (.if_icmp .eq off, 3)) (h : (if x = y then A else B) = some res) (kt : A = some res → G L X Γ nL Q tgt lv st M) (kf : B = some res → G L X Γ nL Q (pc + 3) lv st M) : G L X Γ nL Q pc lv (.int y :: .int x :: st) M :=
  fun H locs ls hl hP hS => lv_icmp_eq K.ex K.cd hd ht (fun z => kt ((ite_e h).1 z) H locs ls hl hP hS) (fun z => kf ((ite_e h).2 z) H locs ls hl hP hS)
theorem g_icmp_ne (K : Kx L X Γ own b nL d ret) {x y : Int32} {off : Int} {tgt : Nat} {ρ : Type} {res : ρ} {A B : Option ρ} (ht : (pc : Int) + off = (tgt : Int)) (hd : decode b pc = .ok (.if_icmp .ne off, 3)) (h : (if x = y then B else A) = some res) (kt : A = some res → G L X Γ nL Q tgt lv st M) (kf : B = some res → G L X Γ nL Q (pc + 3) lv st M) : G L X Γ nL Q pc lv (.int y :: .int x :: st) M :=
  fun H locs ls hl hP hS => lv_icmp_ne K.ex K.cd hd ht (fun z => kt ((ite_e h).2 z) H locs ls hl hP hS) (fun z => kf ((ite_e h).1 z) H locs ls hl hP hS)
theorem g_icmp_lt (K : Kx L X Γ own b nL d ret) {x y : Int32} {off : Int} {tgt : Nat} {ρ : Type} {res : ρ} {A B : Option ρ} (ht : (pc : Int) + off = (tgt : Int)) (hd : decode b pc = .ok (.if_icmp .lt off, 3)) (h : (if x < y then A else B) = some res) (kt : A = some res → G L X Γ nL Q tgt lv st M) (kf : B = some res → G L X Γ nL Q (pc + 3) lv st M) : G L X Γ nL Q pc lv (.int y :: .int x :: st) M :=
  fun H locs ls hl hP hS => lv_icmp_lt K.ex K.cd hd ht (fun z => kt ((ite_e h).1 z) H locs ls hl hP hS) (fun z => kf ((ite_e h).2 z) H locs ls hl hP hS)
theorem g_icmp_ge (K : Kx L X Γ own b nL d ret) {x y : Int32} {off : Int} {tgt : Nat} {ρ : Type} {res : ρ} {A B : Option ρ} (ht : (pc : Int) + off = (tgt : Int)) (hd : decode b pc = .ok (.if_icmp .ge off, 3)) (h : (if y ≤ x then A else B) = some res) (kt : A = some res → G L X Γ nL Q tgt lv st M) (kf : B = some res → G L X Γ nL Q (pc + 3) lv st M) : G L X Γ nL Q pc lv (.int y :: .int x :: st) M :=
  fun H locs ls hl hP hS => lv_icmp_ge K.ex K.cd hd ht (fun z => kt ((ite_e h).1 z) H locs ls hl hP hS) (fun z => kf ((ite_e h).2 z) H locs ls hl hP hS)
theorem g_icmp_gt (K : Kx L X Γ own b nL d ret) {x y : Int32} {off : Int} {tgt : Nat} {ρ : Type} {res : ρ} {A B : Option ρ} (ht : (pc : Int) + off = (tgt : Int)) (hd : decode b pc = .ok (.if_icmp .gt off, 3)) (h : (if y < x then A else B) = some res) (kt : A = some res → G L X Γ nL Q tgt lv st M) (kf : B = some res → G L X Γ nL Q (pc + 3) lv st M) : G L X Γ nL Q pc lv (.int y :: .int x :: st) M :=
  fun H locs ls hl hP hS => lv_icmp_gt K.ex K.cd hd ht (fun z => kt ((ite_e h).1 z) H locs ls hl hP hS) (fun z => kf ((ite_e h).2 z) H locs ls hl hP hS)
theorem g_icmp_le (K : Kx L X Γ own b nL d ret) {x y : Int32} {off : Int} {tgt : Nat} {ρ : Type} {res : ρ} {A B : Option ρ} (ht : (pc : Int) + off = (tgt : Int)) (hd : decode b pc = .ok (.if_icmp .le off, 3)) (h : (if x ≤ y then A else B) = some res) (kt : A = some res → G L X Γ nL Q tgt lv st M) (kf : B = some res → G L X Γ nL Q (pc + 3) lv st M) : G L X Γ nL Q pc lv (.int y :: .int x :: st) M :=
  fun H locs ls hl hP hS => lv_icmp_le K.ex K.cd hd ht (fun z => kt ((ite_e h).1 z) H locs ls hl hP hS) (fun z => kf ((ite_e h).2 z) H locs ls hl hP hS)
theorem g_if_eq (K : Kx L X Γ own b nL d ret) {x : Int32} {off : Int} {tgt : Nat} {ρ : Type} {res : ρ} {A B : Option ρ} (ht : (pc : Int) + off = (tgt : Int)) (hd : decode b pc = .ok (.ifCond .eq off, 3)) (h : (if x = 0 then A else B) = some res) (kt : A = some res → G L X Γ nL Q tgt lv st M) (kf : B = some res → G L X Γ nL Q (pc + 3) lv st M) : G L X Γ nL Q pc lv (.int x :: st) M :=
  fun H locs ls hl hP hS => lv_if_eq K.ex K.cd hd ht (fun z => kt ((ite_e h).1 z) H locs ls hl hP hS) (fun z => kf ((ite_e h).2 z) H locs ls hl hP hS)
theorem g_if_ne (K : Kx L X Γ own b nL d ret) {x : Int32} {off : Int} {tgt : Nat} {ρ : Type} {res : ρ} {A B : Option ρ} (ht : (pc : Int) + off = (tgt : Int)) (hd : decode b pc = .ok (.ifCond .ne off, 3)) (h : (if x = 0 then B else A) = some res) (kt : A = some res → G L X Γ nL Q tgt lv st M) (kf : B = some res → G L X Γ nL Q (pc + 3) lv st M) : G L X Γ nL Q pc lv (.int x :: st) M :=
  fun H locs ls hl hP hS => lv_if_ne K.ex K.cd hd ht (fun z => kt ((ite_e h).2 z) H locs ls hl hP hS) (fun z => kf ((ite_e h).1 z) H locs ls hl hP hS)
theorem g_if_lt (K : Kx L X Γ own b nL d ret) {x : Int32} {off : Int} {tgt : Nat} {ρ : Type} {res : ρ} {A B : Option ρ} (ht : (pc : Int) + off = (tgt : Int)) (hd : decode b pc = .ok (.ifCond .lt off, 3)) (h : (if x < 0 then A else B) = some res) (kt : A = some res → G L X Γ nL Q tgt lv st M) (kf : B = some res → G L X Γ nL Q (pc + 3) lv st M) : G L X Γ nL Q pc lv (.int x :: st) M :=
  fun H locs ls hl hP hS => lv_if_lt K.ex K.cd hd ht (fun z => kt ((ite_e h).1 z) H locs ls hl hP hS) (fun z => kf ((ite_e h).2 z) H locs ls hl hP hS)
theorem g_if_ge (K : Kx L X Γ own b nL d ret) {x : Int32} {off : Int} {tgt : Nat} {ρ : Type} {res : ρ} {A B : Option ρ} (ht : (pc : Int) + off = (tgt : Int)) (hd : decode b pc = .ok (.ifCond .ge off, 3)) (h : (if 0 ≤ x then A else B) = some res) (kt : A = some res → G L X Γ nL Q tgt lv st M) (kf : B = some res → G L X Γ nL Q (pc + 3) lv st M) : G L X Γ nL Q pc lv (.int x :: st) M :=
  fun H locs ls hl hP hS => lv_if_ge K.ex K.cd hd ht (fun z => kt ((ite_e h).1 z) H locs ls hl hP hS) (fun z => kf ((ite_e h).2 z) H locs ls hl hP hS)
theorem g_if_gt (K : Kx L X Γ own b nL d ret) {x : Int32} {off : Int} {tgt : Nat} {ρ : Type} {res : ρ} {A B : Option ρ} (ht : (pc : Int) + off = (tgt : Int)) (hd : decode b pc = .ok (.ifCond .gt off, 3)) (h : (if 0 < x then A else B) = some res) (kt : A = some res → G L X Γ nL Q tgt lv st M) (kf : B = some res → G L X Γ nL Q (pc + 3) lv st M) : G L X Γ nL Q pc lv (.int x :: st) M :=
  fun H locs ls hl hP hS => lv_if_gt K.ex K.cd hd ht (fun z => kt ((ite_e h).1 z) H locs ls hl hP hS) (fun z => kf ((ite_e h).2 z) H locs ls hl hP hS)
theorem g_if_le (K : Kx L X Γ own b nL d ret) {x : Int32} {off : Int} {tgt : Nat} {ρ : Type} {res : ρ} {A B : Option ρ} (ht : (pc : Int) + off = (tgt : Int)) (hd : decode b pc = .ok (.ifCond .le off, 3)) (h : (if x ≤ 0 then A else B) = some res) (kt : A = some res → G L X Γ nL Q tgt lv st M) (kf : B = some res → G L X Γ nL Q (pc + 3) lv st M) : G L X Γ nL Q pc lv (.int x :: st) M :=
  fun H locs ls hl hP hS => lv_if_le K.ex K.cd hd ht (fun z => kt ((ite_e h).1 z) H locs ls hl hP hS) (fun z => kf ((ite_e h).2 z) H locs ls hl hP hS)
theorem b2i_0 {z : Bool} : b2i z = 0 ↔ ¬ z = true := by cases z <;> decide
theorem g_ifB_eq (K : Kx L X Γ own b nL d ret) {z : Bool} {off : Int} {tgt : Nat} {ρ : Type} {res : ρ} {A B : Option ρ} (ht : (pc : Int) + off = (tgt : Int)) (hd : decode b pc = .ok (.ifCond .eq off, 3)) (h : (if z = true then B else A) = some res) (kt : A = some res → G L X Γ nL Q tgt lv st M) (kf : B = some res → G L X Γ nL Q (pc + 3) lv st M) : G L X Γ nL Q pc lv (.int (b2i z) :: st) M :=
  fun H locs ls hl hP hS => lv_if_eq K.ex K.cd hd ht (fun z => kt ((ite_e h).2 (b2i_0.mp z)) H locs ls hl hP hS) (fun z => kf ((ite_e h).1 ((Decidable.not_not.mp fun w => z (b2i_0.mpr w)))) H locs ls hl hP hS)
theorem g_ifB_ne (K : Kx L X Γ own b nL d ret) {z : Bool} {off : Int} {tgt : Nat} {ρ : Type} {res : ρ} {A B : Option ρ} (ht : (pc : Int) + off = (tgt : Int)) (hd : decode b pc = .ok (.ifCond .ne off, 3)) (h : (if z = true then A else B) = some res) (kt : A = some res → G L X Γ nL Q tgt lv st M) (kf : B = some res → G L X Γ nL Q (pc + 3) lv st M) : G L X Γ nL Q pc lv (.int (b2i z) :: st) M :=
  fun H locs ls hl hP hS => lv_if_ne K.ex K.cd hd ht (fun z => kt ((ite_e h).1 ((Decidable.not_not.mp fun w => z (b2i_0.mpr w)))) H locs ls hl hP hS) (fun z => kf ((ite_e h).2 (b2i_0.mp z)) H locs ls hl hP hS)
theorem g_ifT_eq (K : Kx L X Γ own b nL d ret) {x : Int32} {off : Int} {tgt : Nat} (ht : (pc : Int) + off = (tgt : Int)) (hd : decode b pc = .ok (.ifCond .eq off, 3)) (hc : x = 0) (kt : G L X Γ nL Q tgt lv st M) : G L X Γ nL Q pc lv (.int x :: st) M :=
  fun H locs ls hl hP hS => lv_if_eq K.ex K.cd hd ht (fun z => kt H locs ls hl hP hS) (fun z => absurd hc (by first | exact z | exact not_not_intro z))
theorem g_ifF_eq (K : Kx L X Γ own b nL d ret) {x : Int32} {off : Int} {tgt : Nat} (ht : (pc : Int) + off = (tgt : Int)) (hd : decode b pc = .ok (.ifCond .eq off, 3)) (hc : ¬ x = 0) (kf : G L X Γ nL Q (pc + 3) lv st M) : G L X Γ nL Q pc lv (.int x :: st) M :=
  fun H locs ls hl hP hS => lv_if_eq K.ex K.cd hd ht (fun z => absurd z (by first | exact hc | exact not_not_intro hc)) (fun z => kf H locs ls hl hP hS)
theorem g_ifT_ne (K : Kx L X Γ own b nL d ret) {x : Int32} {off : Int} {tgt : Nat} (ht : (pc : Int) + off = (tgt : Int)) (hd : decode b pc = .ok (.ifCond .ne off, 3)) (hc : ¬ x = 0) (kt : G L X Γ nL Q tgt lv st M) : G L X Γ nL Q pc lv (.int x :: st) M :=
  fun H locs ls hl hP hS => lv_if_ne K.ex K.cd hd ht (fun z => kt H locs ls hl hP hS) (fun z => absurd hc (by first | exact z | exact not_not_intro z))
theorem g_ifF_ne (K : Kx L X Γ own b nL d ret) {x : Int32} {off : Int} {tgt : Nat} (ht : (pc : Int) + off = (tgt : Int)) (hd : decode b pc = .ok (.ifCond .ne off, 3)) (hc : x = 0) (kf : G L X Γ nL Q (pc + 3) lv st M) : G L X Γ nL Q pc lv (.int x :: st) M :=
  fun H locs ls hl hP hS => lv_if_ne K.ex K.cd hd ht (fun z => absurd z (by first | exact hc | exact not_not_intro hc)) (fun z => kf H locs ls hl hP hS)
theorem g_ifT_lt (K : Kx L X Γ own b nL d ret) {x : Int32} {off : Int} {tgt : Nat} (ht : (pc : Int) + off = (tgt : Int)) (hd : decode b pc = .ok (.ifCond .lt off, 3)) (hc : x < 0) (kt : G L X Γ nL Q tgt lv st M) : G L X Γ nL Q pc lv (.int x :: st) M :=
  fun H locs ls hl hP hS => lv_if_lt K.ex K.cd hd ht (fun z => kt H locs ls hl hP hS) (fun z => absurd hc (by first | exact z | exact not_not_intro z))
theorem g_ifF_lt (K : Kx L X Γ own b nL d ret) {x : Int32} {off : Int} {tgt : Nat} (ht : (pc : Int) + off = (tgt : Int)) (hd : decode b pc = .ok (.ifCond .lt off, 3)) (hc : ¬ x < 0) (kf : G L X Γ nL Q (pc + 3) lv st M) : G L X Γ nL Q pc lv (.int x :: st) M :=
  fun H locs ls hl hP hS => lv_if_lt K.ex K.cd hd ht (fun z => absurd z (by first | exact hc | exact not_not_intro hc)) (fun z => kf H locs ls hl hP hS)
theorem g_ifT_ge (K : Kx L X Γ own b nL d ret) {x : Int32} {off : Int} {tgt : Nat} (ht : (pc : Int) + off = (tgt : Int)) (hd : decode b pc = .ok (.ifCond .ge off, 3)) (hc : 0 ≤ x) (kt : G L X Γ nL Q tgt lv st M) : G L X Γ nL Q pc lv (.int x :: st) M :=
  fun H locs ls hl hP hS => lv_if_ge K.ex K.cd hd ht (fun z => kt H locs ls hl hP hS) (fun z => absurd hc (by first | exact z | exact not_not_intro z))
theorem g_ifF_ge (K : Kx L X Γ own b nL d ret) {x : Int32} {off : Int} {tgt : Nat} (ht : (pc : Int) + off = (tgt : Int)) (hd : decode b pc = .ok (.ifCond .ge off, 3)) (hc : ¬ 0 ≤ x) (kf : G L X Γ nL Q (pc + 3) lv st M) : G L X Γ nL Q pc lv (.int x :: st) M :=
  fun H locs ls hl hP hS => lv_if_ge K.ex K.cd hd ht (fun z => absurd z (by first | exact hc | exact not_not_intro hc)) (fun z => kf H locs ls hl hP hS)
theorem g_ifT_gt (K : Kx L X Γ own b nL d ret) {x : Int32} {off : Int} {tgt : Nat} (ht : (pc : Int) + off = (tgt : Int)) (hd : decode b pc = .ok (.ifCond .gt off, 3)) (hc : 0 < x) (kt : G L X Γ nL Q tgt lv st M) : G L X Γ nL Q pc lv (.int x :: st) M :=
  fun H locs ls hl hP hS => lv_if_gt K.ex K.cd hd ht (fun z => kt H locs ls hl hP hS) (fun z => absurd hc (by first | exact z | exact not_not_intro z))
theorem g_ifF_gt (K : Kx L X Γ own b nL d ret) {x : Int32} {off : Int} {tgt : Nat} (ht : (pc : Int) + off = (tgt : Int)) (hd : decode b pc = .ok (.ifCond .gt off, 3)) (hc : ¬ 0 < x) (kf : G L X Γ nL Q (pc + 3) lv st M) : G L X Γ nL Q pc lv (.int x :: st) M :=
  fun H locs ls hl hP hS => lv_if_gt K.ex K.cd hd ht (fun z => absurd z (by first | exact hc | exact not_not_intro hc)) (fun z => kf H locs ls hl hP hS)
theorem g_ifT_le (K : Kx L X Γ own b nL d ret) {x : Int32} {off : Int} {tgt : Nat} (ht : (pc : Int) + off = (tgt : Int)) (hd : decode b pc = .ok (.ifCond .le off, 3)) (hc : x ≤ 0) (kt : G L X Γ nL Q tgt lv st M) : G L X Γ nL Q pc lv (.int x :: st) M :=
  fun H locs ls hl hP hS => lv_if_le K.ex K.cd hd ht (fun z => kt H locs ls hl hP hS) (fun z => absurd hc (by first | exact z | exact not_not_intro z))
theorem g_ifF_le (K : Kx L X Γ own b nL d ret) {x : Int32} {off : Int} {tgt : Nat} (ht : (pc : Int) + off = (tgt : Int)) (hd : decode b pc = .ok (.ifCond .le off, 3)) (hc : ¬ x ≤ 0) (kf : G L X Γ nL Q (pc + 3) lv st M) : G L X Γ nL Q pc lv (.int x :: st) M :=
  fun H locs ls hl hP hS => lv_if_le K.ex K.cd hd ht (fun z => absurd z (by first | exact hc | exact not_not_intro hc)) (fun z => kf H locs ls hl hP hS)
theorem g_ifnull (K : Kx L X Γ own b nL d ret) {x : Nat} {off : Int} (hd : decode b pc = .ok (.ifnull off, 3)) (k : G L X Γ nL Q (pc + 3) lv st M) : G L X Γ nL Q pc lv (.ref x :: st) M :=
  fun H locs ls hl hP hS => lv_ifnull K.ex K.cd hd (k H locs ls hl hP hS)
theorem g_ifnonnull (K : Kx L X Γ own b nL d ret) {x : Nat} {off : Int} {tgt : Nat} (ht : (pc : Int) + off = (tgt : Int)) (hd : decode b pc = .ok (.ifnonnull off, 3)) (k : G L X Γ nL Q tgt lv st M) : G L X Γ nL Q pc lv (.ref x :: st) M :=
  fun H locs ls hl hP hS => lv_ifnonnull K.ex K.cd hd ht (k H locs ls hl hP hS)
theorem g_ifnullN (K : Kx L X Γ own b nL d ret)  {off : Int} {tgt : Nat} (ht : (pc : Int) + off = (tgt : Int)) (hd : decode b pc = .ok (.ifnull off, 3)) (k : G L X Γ nL Q tgt lv st M) : G L X Γ nL Q pc lv (.null :: st) M :=
  fun H locs ls hl hP hS => lv_ifnullN K.ex K.cd hd ht (k H locs ls hl hP hS)
theorem g_ifnonnullN (K : Kx L X Γ own b nL d ret)  {off : Int} (hd : decode b pc = .ok (.ifnonnull off, 3)) (k : G L X Γ nL Q (pc + 3) lv st M) : G L X Γ nL Q pc lv (.null :: st) M :=
  fun H locs ls hl hP hS => lv_ifnonnullN K.ex K.cd hd (k H locs ls hl hP hS)
theorem g_null (K : Kx L X Γ own b nL d ret) (hd : decode b pc = .ok (.aconst_null, 1)) (k : G L X Γ nL Q (pc + 1) lv (.null :: st) M) : G L X Γ nL Q pc lv st M :=
  fun H locs ls hl hP hS => lv_null K.ex K.cd hd (k H locs ls hl hP hS)
theorem g_tsw (K : Kx L X Γ own b nL d ret) {x v : Int32} {dflt lo hi off : Int} {offs : Array Int} {len tgt : Nat} (hx : x = v) (h1 : ¬ v.toInt < lo) (h2 : ¬ hi < v.toInt) (ho : offs[(v.toInt - lo).toNat]? = some off) (ht : (pc : Int) + off = (tgt : Int)) (hd : decode b pc = .ok (.tableswitch dflt lo hi offs, len)) (k : G L X Γ nL Q tgt lv st M) : G L X Γ nL Q pc lv (.int x :: st) M := by
  subst hx
  exact fun H locs ls hl hP hS => lv_tableIn K.ex K.cd hd h1 h2 ho ht (k H locs ls hl hP hS)
theorem g_tswD (K : Kx L X Γ own b nL d ret) {x : Int32} {dflt lo hi : Int} {offs : Array Int} {len tgt : Nat} (vs : List Int32) (hv : ∀ i : Nat, i < vs.length → (vs.getD i 0).toInt = lo + i) (hn : hi < lo + vs.length) (hx : ∀ v ∈ vs, ¬ x = v) (ht : (pc : Int) + dflt = (tgt : Int)) (hd : decode b pc = .ok (.tableswitch dflt lo hi offs, len)) (k : G L X Γ nL Q tgt lv st M) : G L X Γ nL Q pc lv (.int x :: st) M := by
  have hz : x.toInt < lo ∨ hi < x.toInt := by
    refine Decidable.byContradiction fun z => ?_
    have z1 : ¬ x.toInt < lo := fun w => z (Or.inl w)
    have z2 : ¬ hi < x.toInt := fun w => z (Or.inr w)
    have hlt : (x.toInt - lo).toNat < vs.length := by omega
    have e := hv _ hlt
    refine hx (vs.getD (x.toInt - lo).toNat 0) ?_ ?_
    · rw [List.getD_eq_getElem?_getD, List.getElem?_eq_getElem hlt]
      exact List.getElem_mem hlt
    · apply Int32.toInt_inj.mp
      rw [e]
      omega
  exact fun H locs ls hl hP hS => lv_tableOut K.ex K.cd hd hz ht (k H locs ls hl hP hS)
theorem g_lsw (K : Kx L X Γ own b nL d ret) {x : Int32} {dflt off : Int} {ps : Array (Int × Int)} {len tgt : Nat} (ho : Op.lookupswitch.offset ps.toList dflt x.toInt = off) (hp : (ps.toList.zip (ps.toList.drop 1)).all (fun (a, next) => a.1 < next.1) = true) (ht : (pc : Int) + off = (tgt : Int)) (hd : decode b pc = .ok (.lookupswitch dflt ps, len)) (k : G L X Γ nL Q tgt lv st M) : G L X Γ nL Q pc lv (.int x :: st) M :=
  fun H locs ls hl hP hS => lv_lookup K.ex K.cd hd hp ho ht (k H locs ls hl hP hS)
theorem lsw_0 (dflt k : Int) : Op.lookupswitch.offset [] dflt k = dflt := rfl
theorem lsw_t {x v : Int32} {a o : Int} {r : List (Int × Int)} {dflt : Int} (h : x = v) (ha : v.toInt = a) : Op.lookupswitch.offset ((a, o) :: r) dflt x.toInt = o := by
  subst h
  rw [lookupswitch.offset_cons, if_pos ha.symm]
theorem lsw_f {x v : Int32} {a o w : Int} {r : List (Int × Int)} {dflt : Int} (h : ¬ x = v) (ha : v.toInt = a) (k : Op.lookupswitch.offset r dflt x.toInt = w) : Op.lookupswitch.offset ((a, o) :: r) dflt x.toInt = w := by
  rw [lookupswitch.offset_cons, if_neg (fun z => h (Int32.toInt_inj.mp (by rw [ha, z]))), k]
theorem g_get (K : Kx L X Γ own b nL d ret) {idx ci k t cd : Nat} {sp : List Nat} {v : Value} (F : FL own idx ci k) (hc : L[t]? = some (.inl (ci, sp))) (hk : sp[k]? = some cd) (hv : fv X.2.2.2.1 (M t) k cd = v) (hd : decode b pc = .ok (.getfield idx, 3)) (kk : G L X Γ nL Q (pc + 3) lv (v :: st) M) : G L X Γ nL Q pc lv (.ref (X.2.2.2.1 t) :: st) M := by
  obtain ⟨C, T, N, h1, h2, h3, h4⟩ := F
  subst hv
  intro H locs ls hl hP hS
  rcases h4 with h4 | ⟨host, h4⟩
  · exact va_get (D := X.2.1) (cl := vwCl) (Ts := gt) K.ex K.cd K.ts h3 K.ow K.kk hP t (wsO_at hc) h1 k h2 (K.ts _ h4) (fun _ h => h) (flds_at hk) hd (kk H locs ls hl hP hS)
  · exact va_getN (D := X.2.1) (cl := vwCl) (Ts := gt) K.ex K.cd K.ts h3 K.ow K.kk hP t (wsO_at hc) h1 k h2 (K.ts _ h4) (fun _ h => h) (flds_at hk) hd (kk H locs ls hl hP hS)
theorem g_geti (K : Kx L X Γ own b nL d ret) {idx ci k t : Nat} {sp : List Nat} (F : FL own idx ci k) (hc : L[t]? = some (.inl (ci, sp))) (hk : sp[k]? = some 0) (hd : decode b pc = .ok (.getfield idx, 3)) (kk : G L X Γ nL Q (pc + 3) lv (.int (M t k) :: st) M) : G L X Γ nL Q pc lv (.ref (X.2.2.2.1 t) :: st) M := g_get K F hc hk rfl hd kk
theorem g_getl (K : Kx L X Γ own b nL d ret) {idx ci k t : Nat} {sp : List Nat} (F : FL own idx ci k) (hc : L[t]? = some (.inl (ci, sp))) (hk : sp[k]? = some 1) (hd : decode b pc = .ok (.getfield idx, 3)) (kk : G L X Γ nL Q (pc + 3) lv (.long (M t k).toInt64 :: st) M) : G L X Γ nL Q pc lv (.ref (X.2.2.2.1 t) :: st) M := g_get K F hc hk rfl hd kk
theorem g_getr (K : Kx L X Γ own b nL d ret) {idx ci k t j : Nat} {sp : List Nat} (F : FL own idx ci k) (hc : L[t]? = some (.inl (ci, sp))) (hk : sp[k]? = some (j + 2)) (hd : decode b pc = .ok (.getfield idx, 3)) (kk : G L X Γ nL Q (pc + 3) lv (.ref (X.2.2.2.1 j) :: st) M) : G L X Γ nL Q pc lv (.ref (X.2.2.2.1 t) :: st) M := g_get K F hc hk rfl hd kk
theorem g_put (K : Kx L X Γ own b nL d ret) {idx ci k t cd : Nat} {sp : List Nat} {ty : FieldType} {x : Int32} {v : Value} (F : FP own idx ci k ty) (hc : L[t]? = some (.inl (ci, sp))) (hk : sp[k]? = some cd) (hcd : cd < 2) (hv : fv X.2.2.2.1 (upd (M t) k x) k cd = v) (hn : narrow ty v = v) (hf : fits ty v = true) (hd : decode b pc = .ok (.putfield idx, 3)) (kk : G L X Γ nL Q (pc + 3) lv st (wr M t k x)) : G L X Γ nL Q pc lv (v :: .ref (X.2.2.2.1 t) :: st) M := by
  obtain ⟨C, T, N, ty0, h1, h2, h3, h4, h5, h6, h7, h8⟩ := F
  intro H locs ls hl hP hS
  have e := wsO_put (X := X) (M := M) hc hk hv hcd
  rcases h4 with h4 | ⟨host, h4⟩
  · exact va_put (D := X.2.1) (cl := vwCl) (Ts := gt) K.ex K.cd K.ts h3 ty0 h5 h6 K.ow K.kk hP (K.ad.D M) hS t (wsO_at hc) h1 k h2 (K.ts _ h4) (fun _ h => h) h7 h8 hn hf (flds_len hk) hd (fun H1 locs1 hP1 hD1 hS1 => by
      rw [e] at hP1
      exact kk H1 locs1 ls hl hP1 hS1)
  · exact va_putN (D := X.2.1) (cl := vwCl) (Ts := gt) K.ex K.cd K.ts h3 ty0 h5 h6 K.ow K.kk hP (K.ad.D M) hS t (wsO_at hc) h1 k h2 (K.ts _ h4) (fun _ h => h) h7 h8 hn hf (flds_len hk) hd (fun H1 locs1 hP1 hD1 hS1 => by
      rw [e] at hP1
      exact kk H1 locs1 ls hl hP1 hS1)
theorem upd_at (f : Nat → Int32) (k : Nat) (x : Int32) : upd f k x k = x := by simp [upd]
theorem g_puti (K : Kx L X Γ own b nL d ret) {idx ci k t : Nat} {sp : List Nat} {x : Int32} {ρ : Type} {res : ρ} {f : Mem → Option ρ} (F : FP own idx ci k .int) (hc : L[t]? = some (.inl (ci, sp))) (hk : sp[k]? = some 0) (hd : decode b pc = .ok (.putfield idx, 3)) (h : bnd (wr M t k x) f = some res) (kk : ∀ M1 : Mem, f M1 = some res → G L X Γ nL Q (pc + 3) lv st M1) : G L X Γ nL Q pc lv (.int x :: .ref (X.2.2.2.1 t) :: st) M :=
  g_put K F hc hk (Nat.le_of_ble_eq_true rfl) (by show Value.int (upd (M t) k x k) = _; rw [upd_at]) rfl rfl hd (kk _ h)
theorem g_putz (K : Kx L X Γ own b nL d ret) {idx ci k t : Nat} {sp : List Nat} {x : Int32} {ρ : Type} {res : ρ} {f : Mem → Option ρ} (F : FP own idx ci k .boolean) (hc : L[t]? = some (.inl (ci, sp))) (hk : sp[k]? = some 0) (hx : narrow .boolean (.int x) = .int x) (hf : fits .boolean (.int x) = true) (hd : decode b pc = .ok (.putfield idx, 3)) (h : bnd (wr M t k x) f = some res) (kk : ∀ M1 : Mem, f M1 = some res → G L X Γ nL Q (pc + 3) lv st M1) : G L X Γ nL Q pc lv (.int x :: .ref (X.2.2.2.1 t) :: st) M :=
  g_put K F hc hk (Nat.le_of_ble_eq_true rfl) (by show Value.int (upd (M t) k x k) = _; rw [upd_at]) hx hf hd (kk _ h)
theorem g_putl (K : Kx L X Γ own b nL d ret) {idx ci k t : Nat} {sp : List Nat} {x : Int64} {ρ : Type} {res : ρ} {f : Mem → Option ρ} (F : FP own idx ci k .long) (hc : L[t]? = some (.inl (ci, sp))) (hk : sp[k]? = some 1) (hd : decode b pc = .ok (.putfield idx, 3)) (h : rq (x.toInt32.toInt64 = x) (bnd (wr M t k x.toInt32) f) = some res) (kk : ∀ M1 : Mem, f M1 = some res → G L X Γ nL Q (pc + 3) lv st M1) : G L X Γ nL Q pc lv (.long x :: .ref (X.2.2.2.1 t) :: st) M := by
  obtain ⟨e, h⟩ := rq_e h
  exact g_put K F hc hk (Nat.le_of_ble_eq_true rfl) (by show Value.long (upd (M t) k x.toInt32 k).toInt64 = _; rw [upd_at, e]) rfl rfl hd (kk _ h)
theorem g_iald (K : Kx L X Γ own b nL d ret) {t n : Nat} {ch : Nat → Nat} {i : Int32} {ρ : Type} {res : ρ} {A : Option ρ} (hc : L[t]? = some (.inr (0, n, ch))) (hd : decode b pc = .ok (.iaload, 1)) (h : ck i n A = some res) (kk : A = some res → G L X Γ nL Q (pc + 1) lv (.int (M t i.toNatClampNeg) :: st) M) : G L X Γ nL Q pc lv (.int i :: .ref (X.2.2.2.1 t) :: st) M :=
  fun H locs ls hl hP hS => va_iald K.ex K.cd K.kk hP t 0 (wsO_at hc) (show (tysO X.2.2.1)[0]? = some (X.2.2.1 0, _) from rfl) (ck_e h).1 hd (kk (ck_e h).2 H locs ls hl hP hS)
theorem g_zald (K : Kx L X Γ own b nL d ret) {t n : Nat} {ch : Nat → Nat} {i : Int32} {ρ : Type} {res : ρ} {A : Option ρ} (hc : L[t]? = some (.inr (1, n, ch))) (hd : decode b pc = .ok (.baload, 1)) (h : ck i n A = some res) (kk : A = some res → G L X Γ nL Q (pc + 1) lv (.int (M t i.toNatClampNeg) :: st) M) : G L X Γ nL Q pc lv (.int i :: .ref (X.2.2.2.1 t) :: st) M :=
  fun H locs ls hl hP hS => va_zald K.ex K.cd K.kk hP t 1 (wsO_at hc) (show (tysO X.2.2.1)[1]? = some (X.2.2.1 1, _) from rfl) (ck_e h).1 hd (kk (ck_e h).2 H locs ls hl hP hS)
theorem g_iast (K : Kx L X Γ own b nL d ret) {t n : Nat} {ch : Nat → Nat} {i x : Int32} {ρ : Type} {res : ρ} {f : Mem → Option ρ} (hc : L[t]? = some (.inr (0, n, ch))) (hd : decode b pc = .ok (.iastore, 1)) (h : ck i n (bnd (wr M t i.toNatClampNeg x) f) = some res) (kk : ∀ M1 : Mem, f M1 = some res → G L X Γ nL Q (pc + 1) lv st M1) : G L X Γ nL Q pc lv (.int x :: .int i :: .ref (X.2.2.2.1 t) :: st) M :=
  fun H locs ls hl hP hS => va_iast K.ex K.cd K.kk hP (K.ad.D M) hS t 0 (wsO_at hc) (show (tysO X.2.2.1)[0]? = some (X.2.2.1 0, _) from rfl) (ck_e h).1 hd (fun H1 locs1 hP1 hD1 hS1 => by
    have hc' : L[t]? = some (.inr (0, n, ch)) := hc
    rw [wsO_st hc' (Nat.le_of_ble_eq_true rfl)] at hP1
    exact kk _ (ck_e h).2 H1 locs1 ls hl hP1 hS1)
theorem g_zast (K : Kx L X Γ own b nL d ret) {t n : Nat} {ch : Nat → Nat} {i x : Int32} {ρ : Type} {res : ρ} {f : Mem → Option ρ} (hc : L[t]? = some (.inr (1, n, ch))) (hd : decode b pc = .ok (.bastore, 1)) (h : ck i n (bnd (wr M t i.toNatClampNeg (vp_nar .boolean x)) f) = some res) (kk : ∀ M1 : Mem, f M1 = some res → G L X Γ nL Q (pc + 1) lv st M1) : G L X Γ nL Q pc lv (.int x :: .int i :: .ref (X.2.2.2.1 t) :: st) M :=
  fun H locs ls hl hP hS => va_zast K.ex K.cd K.kk hP (K.ad.D M) hS t 1 (wsO_at hc) (show (tysO X.2.2.1)[1]? = some (X.2.2.1 1, _) from rfl) (ck_e h).1 hd (fun H1 locs1 hP1 hD1 hS1 => by
    have hc' : L[t]? = some (.inr (1, n, ch)) := hc
    rw [wsO_st hc' (Nat.le_of_ble_eq_true rfl)] at hP1
    exact kk _ (ck_e h).2 H1 locs1 ls hl hP1 hS1)
theorem g_aald (K : Kx L X Γ own b nL d ret) {t n ty : Nat} {C : String} {ch : Nat → Nat} {i : Int32} {ρ : Type} {res : ρ} {A : Option ρ} (hc : L[t]? = some (.inr (ty + 2, n, ch))) (hty : (tysO X.2.2.1)[ty + 2]? = some (X.2.2.1 (ty + 2), .object C)) (hd : decode b pc = .ok (.aaload, 1)) (h : ck i n A = some res) (kk : vp_in i n → A = some res → G L X Γ nL Q (pc + 1) lv (.ref (X.2.2.2.1 (ch i.toNatClampNeg)) :: st) M) : G L X Γ nL Q pc lv (.int i :: .ref (X.2.2.2.1 t) :: st) M :=
  fun H locs ls hl hP hS => va_aldq K.ex K.cd K.kk hP t (ty + 2) (wsO_at hc) hty (ck_e h).1 hd (kk (ck_e h).1 (ck_e h).2 H locs ls hl hP hS)
theorem g_alen (K : Kx L X Γ own b nL d ret) {t n ty : Nat} {ch : Nat → Nat} {v : Int32} {fty : FieldType} (hc : L[t]? = some (.inr (ty, n, ch))) (hty : (tysO X.2.2.1)[ty]? = some (X.2.2.1 ty, fty)) (hv : Int32.ofNat n = v) (hd : decode b pc = .ok (.arraylength, 1)) (kk : G L X Γ nL Q (pc + 1) lv (.int v :: st) M) : G L X Γ nL Q pc lv (.ref (X.2.2.2.1 t) :: st) M :=
  fun H locs ls hl hP hS => va_alen K.ex K.cd K.kk hP t ty (wsO_at hc) hty hv hd (kk H locs ls hl hP hS)
theorem g_gets (K : Kx L X Γ own b nL d ret) {idx j : Nat} (hj : j < 4) (hw : Cond.fieldLink own idx "BeforeItGoes" (tnm j) "[I" ∈ gt ∨ ∃ host : String, Cond.fieldLinkNest own idx "BeforeItGoes" (tnm j) "[I" host ∈ gt) (hd : decode b pc = .ok (.getstatic idx, 3)) (kk : G L X Γ nL Q (pc + 3) lv (.ref (X.2.2.2.1 (1000 + j)) :: st) M) : G L X Γ nL Q pc lv st M := by
  intro H locs ls hl hP hS
  rcases hw with hw | ⟨host, hw⟩
  · exact va_gets K.ex K.cd (K.sta.1 j hj).1 hS K.ow (K.ts _ hw) (fun _ h => h) hd (kk H locs ls hl hP hS)
  · exact va_getsN K.ex K.cd (K.sta.1 j hj).1 hS K.ow (K.ts _ hw) (fun _ h => h) hd (kk H locs ls hl hP hS)
theorem g_tald (K : Kx L X Γ own b nL d ret) {j n : Nat} {i : Int32} {ρ : Type} {res : ρ} {A : Option ρ} (hj : j < 4) (hn : (tab j).length = n) (hd : decode b pc = .ok (.iaload, 1)) (h : ck i n A = some res) (kk : A = some res → G L X Γ nL Q (pc + 1) lv (.int (tb j i.toNatClampNeg) :: st) M) : G L X Γ nL Q pc lv (.int i :: .ref (X.2.2.2.1 (1000 + j)) :: st) M := by
  subst hn
  exact fun H locs ls hl hP hS => va_ti K.ex K.cd (K.sta.1 j hj).2 hS (ck_e h).1 rfl hd (kk (ck_e h).2 H locs ls hl hP hS)
theorem g_tlen (K : Kx L X Γ own b nL d ret) {j : Nat} {v : Int32} (hj : j < 4) (hv : Int32.ofNat (tab j).length = v) (hd : decode b pc = .ok (.arraylength, 1)) (kk : G L X Γ nL Q (pc + 1) lv (.int v :: st) M) : G L X Γ nL Q pc lv (.ref (X.2.2.2.1 (1000 + j)) :: st) M :=
  fun H locs ls hl hP hS => va_tlen K.ex K.cd (K.sta.1 j hj).2 hS hv hd (kk H locs ls hl hP hS)
theorem g_ldcS (K : Kx L X Γ own b nL d ret) {idx i : Nat} {tx : String} (hi : whS[i]? = some (own, idx, tx)) (hd : decode b pc = .ok (.ldc idx, 2)) (kk : G L X Γ nL Q (pc + 2) lv (.ref (X.2.2.2.1 (2000 + i)) :: st) M) : G L X Γ nL Q pc lv st M :=
  fun H locs ls hl hP hS => va_ldcS K.ex K.cd K.ow (K.sta.2.2.1 i _ hi) hd (kk H locs ls hl hP hS)
theorem g_coder (K : Kx L X Γ own b nL d ret) {idx i : Nat} (hi : i < nS) (hw : Cond.fieldLink own idx "java/lang/String" "coder" "B" ∈ gt) (hd : decode b pc = .ok (.getfield idx, 3)) (kk : G L X Γ nL Q (pc + 3) lv (.int 0 :: st) M) : G L X Γ nL Q pc lv (.ref (X.2.2.2.1 (2000 + i)) :: st) M :=
  fun H locs ls hl hP hS => vk_getf K.ex K.cd (K.sta.2.1.1 i hi).2.1 hS K.ow (K.ts _ hw) (fun _ h => h) hd (kk H locs ls hl hP hS)
theorem g_value (K : Kx L X Γ own b nL d ret) {idx i : Nat} (hi : i < nS) (hw : Cond.fieldLink own idx "java/lang/String" "value" "[B" ∈ gt) (hd : decode b pc = .ok (.getfield idx, 3)) (kk : G L X Γ nL Q (pc + 3) lv (.ref (X.2.2.2.1 (3000 + i)) :: st) M) : G L X Γ nL Q pc lv (.ref (X.2.2.2.1 (2000 + i)) :: st) M :=
  fun H locs ls hl hP hS => vk_getf K.ex K.cd (K.sta.2.1.1 i hi).2.2.1 hS K.ow (K.ts _ hw) (fun _ h => h) hd (kk H locs ls hl hP hS)
theorem g_compact (K : Kx L X Γ own b nL d ret) {idx : Nat} (hw : Cond.fieldLink own idx "java/lang/String" "COMPACT_STRINGS" "Z" ∈ gt) (hd : decode b pc = .ok (.getstatic idx, 3)) (kk : G L X Γ nL Q (pc + 3) lv (.int 1 :: st) M) : G L X Γ nL Q pc lv st M :=
  fun H locs ls hl hP hS => va_gets K.ex K.cd K.sta.2.2.2 hS K.ow (K.ts _ hw) (fun _ h => h) hd (kk H locs ls hl hP hS)
theorem g_bald (K : Kx L X Γ own b nL d ret) {i n : Nat} {j : Int32} {ρ : Type} {res : ρ} {A : Option ρ} (hi : i < nS) (hn : lenS.getD i 0 = n) (hd : decode b pc = .ok (.baload, 1)) (h : ck j n A = some res) (kk : A = some res → G L X Γ nL Q (pc + 1) lv (.int ((bytS.getD i []).getD j.toNatClampNeg 0) :: st) M) : G L X Γ nL Q pc lv (.int j :: .ref (X.2.2.2.1 (3000 + i)) :: st) M := by
  subst hn
  exact fun H locs ls hl hP hS => va_tb K.ex K.cd (K.sta.2.1.1 i hi).2.2.2 hS (ck_e h).1 rfl hd (kk (ck_e h).2 H locs ls hl hP hS)
theorem g_blen (K : Kx L X Γ own b nL d ret) {i : Nat} (hi : i < nS) (hd : decode b pc = .ok (.arraylength, 1)) (kk : G L X Γ nL Q (pc + 1) lv (.int (nI (lenS.getD i 0)) :: st) M) : G L X Γ nL Q pc lv (.ref (X.2.2.2.1 (3000 + i)) :: st) M :=
  fun H locs ls hl hP hS => va_tlen K.ex K.cd (K.sta.2.1.1 i hi).2.2.2 hS rfl hd (kk H locs ls hl hP hS)
theorem pre_blind {av : List Value} : FrameBlind (va_Pc av (Pre L X M)) := by
  intro a U g mk q
  obtain ⟨q0, qP, qK, qS, qA⟩ := q
  exact ⟨q0, qP, va_K.moved (u := U) (U := U.calling g mk a) (Vm.Alike.refl U.vm) qK, St.same (u := U) (U := U.calling g mk a) rfl qS, qA⟩
theorem pre_at (K : Kx L X Γ own b nL d ret) {H : Heap} {locs : List Loc} {av : List Value} (hP : va_P X.2.1 vwCl (wsO L X M) H) (hS : va_S X.2.2.2.2 Γ.2.2.1.heap H locs) : ∀ U : State, U.heap = H → Γ.2.2.1.WarmedH U.vm → va_Pc av (Pre L X M) av.toArray U := by
  intro U hU hW
  refine ⟨rfl, by rw [hU]; exact hP, va_K.moved hW.alike K.kk, ?_, K.ad⟩
  rw [hU]
  exact (K.sta.kept hS.2.1).warm hW
theorem g_run {st0 rest : List Value} {M1 : Mem} {v : Option Value} {a : Array Value} (hr : ∀ (H : Heap) (locs : List Loc) (ls : Array Slot), lv_has ls nL lv → va_P X.2.1 vwCl (wsO L X M) H → va_S X.2.2.2.2 Γ.2.2.1.heap H locs → va_Run Γ.1 X.1 Γ.2.1 Γ.2.2.2.2.2.2.2.2.1 Γ.2.2.1 Γ.2.2.2.1 Γ.2.2.2.2.1 Γ.2.2.2.2.2.1 Γ.2.2.2.2.2.2.1 Γ.2.2.2.2.2.2.2.1 H locs Γ.2.2.2.2.2.2.2.2.2.1 Γ.2.2.2.2.2.2.2.2.2.2 0 0 (F0 Γ.2.2.2.1 pc ls st0) rest (Qo L X v M1 a) X.2.2.2.2) (kk : G L X Γ nL Q (pc + 3) lv (v.toList ++ rest) M1) : G L X Γ nL Q pc lv st0 M := by
  intro H locs ls hl hP hS T hT Xs
  obtain ⟨v', st₀, t, T', Lc, h0, X', hL, e1, e2, ⟨hv, hP1, hz, hk⟩, stp⟩ := hr H locs ls hl hP hS T hT Xs
  cases hv
  rw [h0] at hz hk
  obtain ⟨t2, a1, b1⟩ := kk T'.heap (locs ++ Lc) ls hl (by rw [e1]; exact hP1) ⟨Nat.le_trans hS.1 (by rw [e1]; exact hz), fun q h1 h2 => by rw [e1, hk q (Nat.lt_of_lt_of_le h1 hS.1) h2]; exact hS.2.1 q h1 h2, fun q hq => by
      rcases List.mem_append.mp hq with h | h
      · exact hS.2.2 q h
      · exact hL q h⟩ T' rfl X'
  exact ⟨t2, stp t2 a1, b1⟩
theorem gt_call {y : MethodName} {b' : ByteArray} {n' : Nat} {r' : Option FieldType} (h : Cond.code y b' n' r' ∈ gt) : GoodIn gt (.code y b' n' r' :: gt) := gt_good (fun w hw => (List.mem_cons.mp hw).elim (fun e => e ▸ h) id)
theorem g_callV (K : Kx L X Γ own b nL d ret) {idx n d' : Nat} {y : MethodName} {b' : ByteArray} {nL' : Nat} {ret' : Option FieldType} {As st0 rest : List Value} {a : Nat} {v : Option Value} {M1 : Mem} (hdd : d' + 1 ≤ d) (V : MV own idx y b' nL' ret' n) (hrc : ∀ (H : Heap) (locs : List Loc), va_P X.2.1 vwCl (wsO L X M) H → va_S X.2.2.2.2 Γ.2.2.1.heap H locs → ∃ cellB : Cell, H[X.2.2.2.1 a]? = some cellB ∧ cellB.vm.isStatics = false ∧ Γ.2.2.1.vm.findClass y.cls = some cellB.cls) (ct : CT L X d' y b' nL' ret' (.ref (X.2.2.2.1 a) :: As) M M1 v) (hn : As.length = n) (hst : st0 = As.reverse ++ .ref (X.2.2.2.1 a) :: rest) (hw : (rest.map fun v => v.category).sum ≤ 8) (hd : decode b pc = .ok (.invokevirtual idx, 3)) (kk : G L X Γ nL Q (pc + 3) lv (v.toList ++ rest) M1) : G L X Γ nL Q pc lv st0 M := by
  obtain ⟨hl0, hin, hse, hini, hco, hyy, hnl⟩ := V
  have hR : (rm d').frames + 1 ≤ Γ.2.2.2.2.2.2.2.2.1.frames ∧ 8 + (nL' + 11) + (rm d').locals ≤ Γ.2.2.2.2.2.2.2.2.1.locals := ⟨Nat.le_trans hdd K.fr, by have := K.lo; show 8 + (nL' + 11) + 40 * d' ≤ _; omega⟩
  refine g_run (rest := rest) (v := v) (M1 := M1) (a := (Value.ref (X.2.2.2.1 a) :: As).toArray) (fun H locs ls hl hP hS => ?_) kk
  rcases hl0 with hl0 | ⟨host, hl0⟩
  · exact va_runV ⟨K.ex, K.cd, K.ml, K.ow, K.ts⟩ ct (cwV (own := own) (index := idx) (C := y.cls) n K.ts (gt_good (fun w hw => by
        rcases List.mem_append.mp hw with hw | hw
        · simp only [List.mem_cons, List.not_mem_nil, or_false] at hw
          rcases hw with rfl | rfl | rfl | rfl <;> assumption
        · exact (List.mem_cons.mp hw).elim (fun e => e ▸ hco) id)) rfl rfl rfl ⟨rfl, hyy⟩ hR) ⟨pre_blind, hrc H locs hP hS, pre_at K hP hS⟩ rfl hn hl.1 hst (lv_room hw) hd ⟨K.ce, K.sl⟩
  · exact va_runVN ⟨K.ex, K.cd, K.ml, K.ow, K.ts⟩ ct ⟨va_cnB n K.ts (gt_call hco) rfl rfl rfl (va_Nw.of rfl (K.ts _ hl0)) (K.ts _ hini) hyy hR, K.ts _ hin, K.ts _ hse⟩ ⟨pre_blind, hrc H locs hP hS, pre_at K hP hS⟩ rfl hn hl.1 hst (lv_room hw) hd ⟨K.ce, K.sl⟩
theorem recvO (K : Kx L X Γ own b nL d ret) {t ci : Nat} {sp : List Nat} {q : vw_C} (hc : L[t]? = some (.inl (ci, sp))) (hq : vwCl[ci]? = some q) : ∀ (H : Heap) (locs : List Loc), va_P X.2.1 vwCl (wsO L X M) H → va_S X.2.2.2.2 Γ.2.2.1.heap H locs → ∃ cellB : Cell, H[X.2.2.2.1 t]? = some cellB ∧ cellB.vm.isStatics = false ∧ Γ.2.2.1.vm.findClass q.1 = some cellB.cls := fun H locs hP hS => va_recv K.kk hP hq (wsO_at hc)
theorem recvS (K : Kx L X Γ own b nL d ret) {i : Nat} (hi : i < nS) : ∀ (H : Heap) (locs : List Loc), va_P X.2.1 vwCl (wsO L X M) H → va_S X.2.2.2.2 Γ.2.2.1.heap H locs → ∃ cellB : Cell, H[X.2.2.2.1 (2000 + i)]? = some cellB ∧ cellB.vm.isStatics = false ∧ Γ.2.2.1.vm.findClass "java/lang/String" = some cellB.cls := fun H locs hP hS => vk_recv (adK := fun i => X.2.2.2.1 (2000 + i)) (i := i) K.sta.2.1 hi hS
theorem g_callS (K : Kx L X Γ own b nL d ret) {idx n d' : Nat} {y : MethodName} {b' : ByteArray} {nL' : Nat} {ret' : Option FieldType} {As st0 rest : List Value} {v : Option Value} {M1 : Mem} (hdd : d' + 1 ≤ d) (V : MS own idx y b' nL' ret' n) (ct : CT L X d' y b' nL' ret' As M M1 v) (hn : As.length = n) (hst : st0 = As.reverse ++ rest) (hw : (rest.map fun v => v.category).sum ≤ 8) (hd : decode b pc = .ok (.invokestatic idx, 3)) (kk : G L X Γ nL Q (pc + 3) lv (v.toList ++ rest) M1) : G L X Γ nL Q pc lv st0 M := by
  obtain ⟨hl0, hsa, hini, hco, hyy, hnl⟩ := V
  have hR : (rm d').frames + 1 ≤ Γ.2.2.2.2.2.2.2.2.1.frames ∧ 8 + (nL' + 11) + (rm d').locals ≤ Γ.2.2.2.2.2.2.2.2.1.locals := ⟨Nat.le_trans hdd K.fr, by have := K.lo; show 8 + (nL' + 11) + 40 * d' ≤ _; omega⟩
  refine g_run (rest := rest) (v := v) (M1 := M1) (a := As.toArray) (fun H locs ls hl hP hS => ?_) kk
  rcases hl0 with hl0 | ⟨host, hl0⟩
  · exact va_runS ⟨K.ex, K.cd, K.ml, K.ow, K.ts⟩ ct (va_cwS (own := own) (index := idx) n K.ts (gt_good (fun w hw => by
        rcases List.mem_append.mp hw with hw | hw
        · simp only [List.mem_cons, List.not_mem_nil, or_false] at hw
          rcases hw with rfl | rfl | rfl <;> assumption
        · exact (List.mem_cons.mp hw).elim (fun e => e ▸ hco) id)) rfl rfl rfl hyy hR) ⟨pre_blind, pre_at K hP hS⟩ rfl hn hl.1 hst (lv_room hw) hd ⟨K.ce, K.sl⟩
  · exact va_runSN ⟨K.ex, K.cd, K.ml, K.ow, K.ts⟩ ct ⟨va_cnB n K.ts (gt_call hco) rfl rfl rfl (va_Nw.of rfl (K.ts _ hl0)) (K.ts _ hini) hyy hR, K.ts _ hsa, trivial⟩ ⟨pre_blind, pre_at K hP hS⟩ rfl hn hl.1 hst (lv_room hw) hd ⟨K.ce, K.sl⟩
theorem g_mmax (K : Kx L X Γ own b nL d ret) {idx : Nat} {x y : Int32} (hdd : 1 ≤ d) (h1 : Cond.methodLink own idx Lib.Math.max.name ∈ gt) (h2 : Cond.static Lib.Math.max.name ∈ gt) (h3 : Cond.initialized "java/lang/Math" ∈ gt) (h4 : Cond.code Lib.Math.max.name Lib.Math.max.code 2 (some .int) ∈ gt) (hw : (st.map fun v => v.category).sum ≤ 8) (hd : decode b pc = .ok (.invokestatic idx, 3)) (kk : G L X Γ nL Q (pc + 3) lv (.int (imax x y) :: st) M) : G L X Γ nL Q pc lv (.int y :: .int x :: st) M :=
  fun H locs ls hl hP hS => va_mmax K.ex K.cd (K.ml.trans hl.1.symm) K.ow (K.ts _ h1) (K.ts _ h2) (K.ts _ h3) (K.ts _ h4) (Nat.le_trans hdd K.fr) (by have := K.lo; omega) K.ce K.sl hd (kk H locs ls hl hP hS)
theorem g_mmin (K : Kx L X Γ own b nL d ret) {idx : Nat} {x y : Int32} (hdd : 1 ≤ d) (h1 : Cond.methodLink own idx Lib.Math.min.name ∈ gt) (h2 : Cond.static Lib.Math.min.name ∈ gt) (h3 : Cond.initialized "java/lang/Math" ∈ gt) (h4 : Cond.code Lib.Math.min.name Lib.Math.min.code 2 (some .int) ∈ gt) (hw : (st.map fun v => v.category).sum ≤ 8) (hd : decode b pc = .ok (.invokestatic idx, 3)) (kk : G L X Γ nL Q (pc + 3) lv (.int (imin x y) :: st) M) : G L X Γ nL Q pc lv (.int y :: .int x :: st) M :=
  fun H locs ls hl hP hS => va_mmin K.ex K.cd (K.ml.trans hl.1.symm) K.ow (K.ts _ h1) (K.ts _ h2) (K.ts _ h3) (K.ts _ h4) (Nat.le_trans hdd K.fr) (by have := K.lo; omega) K.ce K.sl hd (kk H locs ls hl hP hS)
theorem g_copy (K : Kx L X Γ own b nL d ret) {idx t0 t1 n0 n1 : Nat} {ch0 ch1 : Nat → Nat} {sp dp n : Int32} {ρ : Type} {res : ρ} {f : Mem → Option ρ} (hdd : 2 ≤ d) (h1 : Cond.methodLink own idx arraycopyName ∈ gt) (h2 : Cond.native arraycopyName ∈ gt) (h3 : Cond.static arraycopyName ∈ gt) (h4 : Cond.initialized "java/lang/System" ∈ gt) (hc0 : L[t0]? = some (.inr (0, n0, ch0))) (hc1 : L[t1]? = some (.inr (0, n1, ch1))) (hw : (st.map fun v => v.category).sum ≤ 8) (hd : decode b pc = .ok (.invokestatic idx, 3))
    (h : rq (¬ sp < 0 ∧ ¬ dp < 0 ∧ ¬ n < 0 ∧ sp.toNatClampNeg + n.toNatClampNeg ≤ n0 ∧ dp.toNatClampNeg + n.toNatClampNeg ≤ n1) (bnd (wrA M t1 (va_cpy (M t0) (M t1) sp.toNatClampNeg dp.toNatClampNeg n.toNatClampNeg)) f) = some res) (kk : ∀ M1 : Mem, f M1 = some res → G L X Γ nL Q (pc + 3) lv st M1) : G L X Γ nL Q pc lv (.int n :: .int dp :: .ref (X.2.2.2.1 t1) :: .int sp :: .ref (X.2.2.2.1 t0) :: st) M := by
  obtain ⟨⟨g1, g2, g3, g4, g5⟩, h⟩ := rq_e h
  have hnl : (st.map fun v => v.category).sum + (nativeFrameWords "java/lang/System" "arraycopy" 5 + 11) ≤ Γ.2.2.2.2.2.2.2.2.1.locals := by
    have e8 := K.lo
    have e9 : nativeFrameWords "java/lang/System" "arraycopy" 5 ≤ 50 := by decide
    omega
  intro H locs ls hl hP hS
  refine va_copyi K.ex K.cd (K.ml.trans hl.1.symm) K.ow (K.ts _ h1) (K.ts _ h2) (K.ts _ h3) (K.ts _ h4) K.kk hP (K.ad.D M) hS t0 t1 0 0 (wsO_at hc0) (wsO_at hc1) (ty := .int) rfl rfl rfl g1 g2 g3 g4 g5 (fun _ _ => rfl) (Nat.le_trans (Nat.le_trans (by omega) hdd) K.fr) hnl hd (fun H1 locs1 hP1 hD1 hS1 => ?_)
  rw [wsO_stA hc1 (Nat.le_of_ble_eq_true rfl)] at hP1
  exact kk _ h H1 locs1 ls hl hP1 hS1
theorem g_iret (K : Kx L X Γ own b nL d (some .int)) {r r' : Int32} {M' : Mem}  (hd : decode b pc = .ok (.ireturn, 1)) (hr : r = r') (hM : M = M') : G L X Γ nL (QM L X Γ (some (.int r')) M') pc lv [.int r] M := by
  subst hr
  subst hM
  exact fun H locs ls hl hP hS => W.iret K.ex K.cd K.rt  (fun t ht hW => ⟨rfl, by rw [ht]; exact hP, hS.F ht⟩) hS.2.2 hd K.lk
theorem g_lret (K : Kx L X Γ own b nL d (some .long)) {r r' : Int64} {M' : Mem}  (hd : decode b pc = .ok (.lreturn, 1)) (hr : r = r') (hM : M = M') : G L X Γ nL (QM L X Γ (some (.long r')) M') pc lv [.long r] M := by
  subst hr
  subst hM
  exact fun H locs ls hl hP hS => W.lret K.ex K.cd K.rt  (fun t ht hW => ⟨rfl, by rw [ht]; exact hP, hS.F ht⟩) hS.2.2 hd K.lk
theorem g_zret {ty : FieldType} (K : Kx L X Γ own b nL d (some ty)) {x x' : Int32} {M' : Mem} (hn : narrow ty (.int x) = .int x) (hd : decode b pc = .ok (.ireturn, 1)) (hr : x = x') (hM : M = M') : G L X Γ nL (QM L X Γ (some (.int x')) M') pc lv [.int x] M := by
  subst hr
  subst hM
  exact fun H locs ls hl hP hS => W.zret K.ex K.cd K.rt hn (fun t ht hW => ⟨rfl, by rw [ht]; exact hP, hS.F ht⟩) hS.2.2 hd K.lk
theorem narrow_b2i (z : Bool) : narrow .boolean (.int (b2i z)) = .int (b2i z) := by cases z <;> rfl
theorem g_vret (K : Kx L X Γ own b nL d none) {M' : Mem} (hd : decode b pc = .ok (.return_, 1)) (hM : M = M') : G L X Γ nL (QM L X Γ none M') pc lv [] M := by
  subst hM
  exact fun H locs ls hl hP hS => W.vret K.ex K.cd K.rt (fun t ht hW => ⟨rfl, by rw [ht]; exact hP, hS.F ht⟩) hS.2.2 hd K.lk
theorem g_aret {rt : FieldType} (K : Kx L X Γ own b nL d (some rt)) {v v' : Value} {M' : Mem} (hrt : (∃ n, rt = .object n) ∨ ∃ t, rt = .array t) (hv : v = .null ∨ ∃ a, v = .ref a) (hd : decode b pc = .ok (.areturn, 1)) (hr : v = v') (hM : M = M') : G L X Γ nL (QM L X Γ (some v') M') pc lv [v] M := by
  subst hr
  subst hM
  exact fun H locs ls hl hP hS => W.aret K.ex K.cd K.rt hrt hv (fun t ht hW => ⟨rfl, by rw [ht]; exact hP, hS.F ht⟩) hS.2.2 hd K.lk
end ROWS
end
