section
-- ===== PART A: goes FIRST, ahead of the names: the tables' words, and 'selects' of the private methods out of them =====
/-- a private method of a class that the tables say can be made, by its rows of tables_1 -/
def lw_okq (q : MethodName × Nat) : Prop := (q.1.cls ≠ "java/lang/invoke/MethodHandle" ∧ q.1.cls ≠ "java/lang/invoke/VarHandle") ∧ Cond.instantiable q.1.cls q.2 ∈ tables_1 ∧ Cond.privateMethod q.1 ∈ tables_1 ∧ Cond.instanceMethod q.1 ∈ tables_1
theorem lw_p0 : lw_okq (⟨"BeforeItGoes", "learn", "()I"⟩, 10) := ⟨⟨by decide +kernel, by decide +kernel⟩, List.mem_of_getElem? (i := 20) (by decide +kernel), List.mem_of_getElem? (i := 311) (by decide +kernel), List.mem_of_getElem? (i := 312) (by decide +kernel)⟩
theorem lw_p1 : lw_okq (⟨"BeforeItGoes$Tape", "endOf", "(I)I"⟩, 6) := ⟨⟨by decide +kernel, by decide +kernel⟩, List.mem_of_getElem? (i := 71) (by decide +kernel), List.mem_of_getElem? (i := 327) (by decide +kernel), List.mem_of_getElem? (i := 328) (by decide +kernel)⟩
theorem lw_p2 : lw_okq (⟨"BeforeItGoes$Tape", "tokenOf", "(II)I"⟩, 6) := ⟨⟨by decide +kernel, by decide +kernel⟩, List.mem_of_getElem? (i := 71) (by decide +kernel), List.mem_of_getElem? (i := 337) (by decide +kernel), List.mem_of_getElem? (i := 338) (by decide +kernel)⟩
theorem lw_p3 : lw_okq (⟨"BeforeItGoes$Tape", "spells", "(Ljava/lang/String;II)Z"⟩, 6) := ⟨⟨by decide +kernel, by decide +kernel⟩, List.mem_of_getElem? (i := 71) (by decide +kernel), List.mem_of_getElem? (i := 416) (by decide +kernel), List.mem_of_getElem? (i := 417) (by decide +kernel)⟩
theorem lw_p4 : lw_okq (⟨"BeforeItGoes$Tape", "numberOf", "(II)I"⟩, 6) := ⟨⟨by decide +kernel, by decide +kernel⟩, List.mem_of_getElem? (i := 71) (by decide +kernel), List.mem_of_getElem? (i := 422) (by decide +kernel), List.mem_of_getElem? (i := 423) (by decide +kernel)⟩
theorem lw_p5 : lw_okq (⟨"BeforeItGoes$Reader", "expect", "(I)V"⟩, 5) := ⟨⟨by decide +kernel, by decide +kernel⟩, List.mem_of_getElem? (i := 102) (by decide +kernel), List.mem_of_getElem? (i := 426) (by decide +kernel), List.mem_of_getElem? (i := 427) (by decide +kernel)⟩
theorem lw_p6 : lw_okq (⟨"BeforeItGoes$Reader", "is", "(I)Z"⟩, 5) := ⟨⟨by decide +kernel, by decide +kernel⟩, List.mem_of_getElem? (i := 102) (by decide +kernel), List.mem_of_getElem? (i := 430) (by decide +kernel), List.mem_of_getElem? (i := 431) (by decide +kernel)⟩
theorem lw_p7 : lw_okq (⟨"BeforeItGoes$Reader", "token", "()I"⟩, 5) := ⟨⟨by decide +kernel, by decide +kernel⟩, List.mem_of_getElem? (i := 102) (by decide +kernel), List.mem_of_getElem? (i := 434) (by decide +kernel), List.mem_of_getElem? (i := 435) (by decide +kernel)⟩
theorem lw_p8 : lw_okq (⟨"BeforeItGoes$Reader", "next", "()V"⟩, 5) := ⟨⟨by decide +kernel, by decide +kernel⟩, List.mem_of_getElem? (i := 102) (by decide +kernel), List.mem_of_getElem? (i := 438) (by decide +kernel), List.mem_of_getElem? (i := 439) (by decide +kernel)⟩
theorem lw_p9 : lw_okq (⟨"BeforeItGoes$Reader", "fail", "()V"⟩, 5) := ⟨⟨by decide +kernel, by decide +kernel⟩, List.mem_of_getElem? (i := 102) (by decide +kernel), List.mem_of_getElem? (i := 442) (by decide +kernel), List.mem_of_getElem? (i := 443) (by decide +kernel)⟩
theorem lw_p10 : lw_okq (⟨"BeforeItGoes$Reader", "readE", "()V"⟩, 5) := ⟨⟨by decide +kernel, by decide +kernel⟩, List.mem_of_getElem? (i := 102) (by decide +kernel), List.mem_of_getElem? (i := 446) (by decide +kernel), List.mem_of_getElem? (i := 447) (by decide +kernel)⟩
theorem lw_p11 : lw_okq (⟨"BeforeItGoes$Reader", "readAnd", "()V"⟩, 5) := ⟨⟨by decide +kernel, by decide +kernel⟩, List.mem_of_getElem? (i := 102) (by decide +kernel), List.mem_of_getElem? (i := 450) (by decide +kernel), List.mem_of_getElem? (i := 451) (by decide +kernel)⟩
theorem lw_p12 : lw_okq (⟨"BeforeItGoes$Reader", "readNot", "()V"⟩, 5) := ⟨⟨by decide +kernel, by decide +kernel⟩, List.mem_of_getElem? (i := 102) (by decide +kernel), List.mem_of_getElem? (i := 454) (by decide +kernel), List.mem_of_getElem? (i := 455) (by decide +kernel)⟩
theorem lw_p13 : lw_okq (⟨"BeforeItGoes$Reader", "readCompared", "()V"⟩, 5) := ⟨⟨by decide +kernel, by decide +kernel⟩, List.mem_of_getElem? (i := 102) (by decide +kernel), List.mem_of_getElem? (i := 458) (by decide +kernel), List.mem_of_getElem? (i := 459) (by decide +kernel)⟩
theorem lw_p14 : lw_okq (⟨"BeforeItGoes$Reader", "readSum", "()V"⟩, 5) := ⟨⟨by decide +kernel, by decide +kernel⟩, List.mem_of_getElem? (i := 102) (by decide +kernel), List.mem_of_getElem? (i := 462) (by decide +kernel), List.mem_of_getElem? (i := 463) (by decide +kernel)⟩
theorem lw_p15 : lw_okq (⟨"BeforeItGoes$Reader", "readTerm", "()V"⟩, 5) := ⟨⟨by decide +kernel, by decide +kernel⟩, List.mem_of_getElem? (i := 102) (by decide +kernel), List.mem_of_getElem? (i := 466) (by decide +kernel), List.mem_of_getElem? (i := 467) (by decide +kernel)⟩
def lw_privs_1 : List (MethodName × Nat) := [(⟨"BeforeItGoes", "learn", "()I"⟩, 10), (⟨"BeforeItGoes$Tape", "endOf", "(I)I"⟩, 6), (⟨"BeforeItGoes$Tape", "tokenOf", "(II)I"⟩, 6), (⟨"BeforeItGoes$Tape", "spells", "(Ljava/lang/String;II)Z"⟩, 6), (⟨"BeforeItGoes$Tape", "numberOf", "(II)I"⟩, 6), (⟨"BeforeItGoes$Reader", "expect", "(I)V"⟩, 5), (⟨"BeforeItGoes$Reader", "is", "(I)Z"⟩, 5), (⟨"BeforeItGoes$Reader", "token", "()I"⟩, 5), (⟨"BeforeItGoes$Reader", "next", "()V"⟩, 5), (⟨"BeforeItGoes$Reader", "fail", "()V"⟩, 5), (⟨"BeforeItGoes$Reader", "readE", "()V"⟩, 5), (⟨"BeforeItGoes$Reader", "readAnd", "()V"⟩, 5), (⟨"BeforeItGoes$Reader", "readNot", "()V"⟩, 5), (⟨"BeforeItGoes$Reader", "readCompared", "()V"⟩, 5), (⟨"BeforeItGoes$Reader", "readSum", "()V"⟩, 5), (⟨"BeforeItGoes$Reader", "readTerm", "()V"⟩, 5)]
theorem lw_r1 : ∀ q ∈ lw_privs_1, lw_okq q := List.forall_mem_cons.mpr ⟨lw_p0, List.forall_mem_cons.mpr ⟨lw_p1, List.forall_mem_cons.mpr ⟨lw_p2, List.forall_mem_cons.mpr ⟨lw_p3, List.forall_mem_cons.mpr ⟨lw_p4, List.forall_mem_cons.mpr ⟨lw_p5, List.forall_mem_cons.mpr ⟨lw_p6, List.forall_mem_cons.mpr ⟨lw_p7, List.forall_mem_cons.mpr ⟨lw_p8, List.forall_mem_cons.mpr ⟨lw_p9, List.forall_mem_cons.mpr ⟨lw_p10, List.forall_mem_cons.mpr ⟨lw_p11, List.forall_mem_cons.mpr ⟨lw_p12, List.forall_mem_cons.mpr ⟨lw_p13, List.forall_mem_cons.mpr ⟨lw_p14, List.forall_mem_cons.mpr ⟨lw_p15, fun _ h => absurd h List.not_mem_nil⟩⟩⟩⟩⟩⟩⟩⟩⟩⟩⟩⟩⟩⟩⟩⟩
theorem lw_p16 : lw_okq (⟨"BeforeItGoes$Reader", "readOne", "()V"⟩, 5) := ⟨⟨by decide +kernel, by decide +kernel⟩, List.mem_of_getElem? (i := 102) (by decide +kernel), List.mem_of_getElem? (i := 470) (by decide +kernel), List.mem_of_getElem? (i := 471) (by decide +kernel)⟩
theorem lw_p17 : lw_okq (⟨"BeforeItGoes$Reader", "number", "()I"⟩, 5) := ⟨⟨by decide +kernel, by decide +kernel⟩, List.mem_of_getElem? (i := 102) (by decide +kernel), List.mem_of_getElem? (i := 474) (by decide +kernel), List.mem_of_getElem? (i := 475) (by decide +kernel)⟩
theorem lw_p18 : lw_okq (⟨"BeforeItGoes$Reader", "readMinus", "()V"⟩, 5) := ⟨⟨by decide +kernel, by decide +kernel⟩, List.mem_of_getElem? (i := 102) (by decide +kernel), List.mem_of_getElem? (i := 482) (by decide +kernel), List.mem_of_getElem? (i := 483) (by decide +kernel)⟩
theorem lw_p19 : lw_okq (⟨"BeforeItGoes$Reader", "opens", "()Z"⟩, 5) := ⟨⟨by decide +kernel, by decide +kernel⟩, List.mem_of_getElem? (i := 102) (by decide +kernel), List.mem_of_getElem? (i := 486) (by decide +kernel), List.mem_of_getElem? (i := 487) (by decide +kernel)⟩
theorem lw_p20 : lw_okq (⟨"BeforeItGoes$Reader", "readBracket", "()V"⟩, 5) := ⟨⟨by decide +kernel, by decide +kernel⟩, List.mem_of_getElem? (i := 102) (by decide +kernel), List.mem_of_getElem? (i := 490) (by decide +kernel), List.mem_of_getElem? (i := 491) (by decide +kernel)⟩
theorem lw_p21 : lw_okq (⟨"BeforeItGoes", "reckoned", "(II)I"⟩, 10) := ⟨⟨by decide +kernel, by decide +kernel⟩, List.mem_of_getElem? (i := 20) (by decide +kernel), List.mem_of_getElem? (i := 569) (by decide +kernel), List.mem_of_getElem? (i := 570) (by decide +kernel)⟩
theorem lw_p22 : lw_okq (⟨"BeforeItGoes", "startTrial", "()V"⟩, 10) := ⟨⟨by decide +kernel, by decide +kernel⟩, List.mem_of_getElem? (i := 20) (by decide +kernel), List.mem_of_getElem? (i := 573) (by decide +kernel), List.mem_of_getElem? (i := 574) (by decide +kernel)⟩
theorem lw_p23 : lw_okq (⟨"BeforeItGoes$Day", "tells", "(III)I"⟩, 17) := ⟨⟨by decide +kernel, by decide +kernel⟩, List.mem_of_getElem? (i := 143) (by decide +kernel), List.mem_of_getElem? (i := 589) (by decide +kernel), List.mem_of_getElem? (i := 590) (by decide +kernel)⟩
theorem lw_p24 : lw_okq (⟨"BeforeItGoes", "isOfDay", "(I)Z"⟩, 10) := ⟨⟨by decide +kernel, by decide +kernel⟩, List.mem_of_getElem? (i := 20) (by decide +kernel), List.mem_of_getElem? (i := 633) (by decide +kernel), List.mem_of_getElem? (i := 634) (by decide +kernel)⟩
theorem lw_p25 : lw_okq (⟨"BeforeItGoes$Day", "dawn", "()V"⟩, 17) := ⟨⟨by decide +kernel, by decide +kernel⟩, List.mem_of_getElem? (i := 143) (by decide +kernel), List.mem_of_getElem? (i := 642) (by decide +kernel), List.mem_of_getElem? (i := 643) (by decide +kernel)⟩
theorem lw_p26 : lw_okq (⟨"BeforeItGoes$Day", "firstRipe", "()I"⟩, 17) := ⟨⟨by decide +kernel, by decide +kernel⟩, List.mem_of_getElem? (i := 143) (by decide +kernel), List.mem_of_getElem? (i := 646) (by decide +kernel), List.mem_of_getElem? (i := 647) (by decide +kernel)⟩
theorem lw_p27 : lw_okq (⟨"BeforeItGoes$Day", "trowel", "(I)V"⟩, 17) := ⟨⟨by decide +kernel, by decide +kernel⟩, List.mem_of_getElem? (i := 143) (by decide +kernel), List.mem_of_getElem? (i := 650) (by decide +kernel), List.mem_of_getElem? (i := 651) (by decide +kernel)⟩
theorem lw_p28 : lw_okq (⟨"BeforeItGoes$Day", "mayBegin", "()Z"⟩, 17) := ⟨⟨by decide +kernel, by decide +kernel⟩, List.mem_of_getElem? (i := 143) (by decide +kernel), List.mem_of_getElem? (i := 654) (by decide +kernel), List.mem_of_getElem? (i := 655) (by decide +kernel)⟩
theorem lw_p29 : lw_okq (⟨"BeforeItGoes$Day", "nextBegins", "()I"⟩, 17) := ⟨⟨by decide +kernel, by decide +kernel⟩, List.mem_of_getElem? (i := 143) (by decide +kernel), List.mem_of_getElem? (i := 658) (by decide +kernel), List.mem_of_getElem? (i := 659) (by decide +kernel)⟩
theorem lw_p30 : lw_okq (⟨"BeforeItGoes$Day", "begin", "(I)V"⟩, 17) := ⟨⟨by decide +kernel, by decide +kernel⟩, List.mem_of_getElem? (i := 143) (by decide +kernel), List.mem_of_getElem? (i := 662) (by decide +kernel), List.mem_of_getElem? (i := 663) (by decide +kernel)⟩
theorem lw_p31 : lw_okq (⟨"BeforeItGoes$Day", "waitOn", "()V"⟩, 17) := ⟨⟨by decide +kernel, by decide +kernel⟩, List.mem_of_getElem? (i := 143) (by decide +kernel), List.mem_of_getElem? (i := 666) (by decide +kernel), List.mem_of_getElem? (i := 667) (by decide +kernel)⟩
def lw_privs_2 : List (MethodName × Nat) := [(⟨"BeforeItGoes$Reader", "readOne", "()V"⟩, 5), (⟨"BeforeItGoes$Reader", "number", "()I"⟩, 5), (⟨"BeforeItGoes$Reader", "readMinus", "()V"⟩, 5), (⟨"BeforeItGoes$Reader", "opens", "()Z"⟩, 5), (⟨"BeforeItGoes$Reader", "readBracket", "()V"⟩, 5), (⟨"BeforeItGoes", "reckoned", "(II)I"⟩, 10), (⟨"BeforeItGoes", "startTrial", "()V"⟩, 10), (⟨"BeforeItGoes$Day", "tells", "(III)I"⟩, 17), (⟨"BeforeItGoes", "isOfDay", "(I)Z"⟩, 10), (⟨"BeforeItGoes$Day", "dawn", "()V"⟩, 17), (⟨"BeforeItGoes$Day", "firstRipe", "()I"⟩, 17), (⟨"BeforeItGoes$Day", "trowel", "(I)V"⟩, 17), (⟨"BeforeItGoes$Day", "mayBegin", "()Z"⟩, 17), (⟨"BeforeItGoes$Day", "nextBegins", "()I"⟩, 17), (⟨"BeforeItGoes$Day", "begin", "(I)V"⟩, 17), (⟨"BeforeItGoes$Day", "waitOn", "()V"⟩, 17)]
theorem lw_r2 : ∀ q ∈ lw_privs_2, lw_okq q := List.forall_mem_cons.mpr ⟨lw_p16, List.forall_mem_cons.mpr ⟨lw_p17, List.forall_mem_cons.mpr ⟨lw_p18, List.forall_mem_cons.mpr ⟨lw_p19, List.forall_mem_cons.mpr ⟨lw_p20, List.forall_mem_cons.mpr ⟨lw_p21, List.forall_mem_cons.mpr ⟨lw_p22, List.forall_mem_cons.mpr ⟨lw_p23, List.forall_mem_cons.mpr ⟨lw_p24, List.forall_mem_cons.mpr ⟨lw_p25, List.forall_mem_cons.mpr ⟨lw_p26, List.forall_mem_cons.mpr ⟨lw_p27, List.forall_mem_cons.mpr ⟨lw_p28, List.forall_mem_cons.mpr ⟨lw_p29, List.forall_mem_cons.mpr ⟨lw_p30, List.forall_mem_cons.mpr ⟨lw_p31, fun _ h => absurd h List.not_mem_nil⟩⟩⟩⟩⟩⟩⟩⟩⟩⟩⟩⟩⟩⟩⟩⟩
theorem lw_p32 : lw_okq (⟨"BeforeItGoes", "ofDay", "(I)I"⟩, 10) := ⟨⟨by decide +kernel, by decide +kernel⟩, List.mem_of_getElem? (i := 20) (by decide +kernel), List.mem_of_getElem? (i := 670) (by decide +kernel), List.mem_of_getElem? (i := 671) (by decide +kernel)⟩
theorem lw_p33 : lw_okq (⟨"BeforeItGoes", "ofWallsDay", "(II)I"⟩, 10) := ⟨⟨by decide +kernel, by decide +kernel⟩, List.mem_of_getElem? (i := 20) (by decide +kernel), List.mem_of_getElem? (i := 682) (by decide +kernel), List.mem_of_getElem? (i := 683) (by decide +kernel)⟩
theorem lw_p34 : lw_okq (⟨"BeforeItGoes", "sheetAt", "(I)LBeforeItGoes$Sheet;"⟩, 10) := ⟨⟨by decide +kernel, by decide +kernel⟩, List.mem_of_getElem? (i := 20) (by decide +kernel), List.mem_of_getElem? (i := 690) (by decide +kernel), List.mem_of_getElem? (i := 691) (by decide +kernel)⟩
theorem lw_p35 : lw_okq (⟨"BeforeItGoes", "startOrder", "(LBeforeItGoes$Sheet;)Z"⟩, 10) := ⟨⟨by decide +kernel, by decide +kernel⟩, List.mem_of_getElem? (i := 20) (by decide +kernel), List.mem_of_getElem? (i := 694) (by decide +kernel), List.mem_of_getElem? (i := 695) (by decide +kernel)⟩
theorem lw_p36 : lw_okq (⟨"BeforeItGoes$Day", "swap", "(II)V"⟩, 17) := ⟨⟨by decide +kernel, by decide +kernel⟩, List.mem_of_getElem? (i := 143) (by decide +kernel), List.mem_of_getElem? (i := 722) (by decide +kernel), List.mem_of_getElem? (i := 723) (by decide +kernel)⟩
theorem lw_p37 : lw_okq (⟨"BeforeItGoes", "liveWith", "(II)V"⟩, 10) := ⟨⟨by decide +kernel, by decide +kernel⟩, List.mem_of_getElem? (i := 20) (by decide +kernel), List.mem_of_getElem? (i := 730) (by decide +kernel), List.mem_of_getElem? (i := 731) (by decide +kernel)⟩
theorem lw_p38 : lw_okq (⟨"BeforeItGoes", "notSo", "(LBeforeItGoes$Sheet;)I"⟩, 10) := ⟨⟨by decide +kernel, by decide +kernel⟩, List.mem_of_getElem? (i := 20) (by decide +kernel), List.mem_of_getElem? (i := 772) (by decide +kernel), List.mem_of_getElem? (i := 773) (by decide +kernel)⟩
theorem lw_p39 : lw_okq (⟨"BeforeItGoes", "dialsOf", "(LBeforeItGoes$Sheet;I)J"⟩, 10) := ⟨⟨by decide +kernel, by decide +kernel⟩, List.mem_of_getElem? (i := 20) (by decide +kernel), List.mem_of_getElem? (i := 780) (by decide +kernel), List.mem_of_getElem? (i := 781) (by decide +kernel)⟩
theorem lw_p40 : lw_okq (⟨"BeforeItGoes", "textsOf", "(LBeforeItGoes$Sheet;)I"⟩, 10) := ⟨⟨by decide +kernel, by decide +kernel⟩, List.mem_of_getElem? (i := 20) (by decide +kernel), List.mem_of_getElem? (i := 784) (by decide +kernel), List.mem_of_getElem? (i := 785) (by decide +kernel)⟩
theorem lw_p41 : lw_okq (⟨"BeforeItGoes", "kindsOf", "(LBeforeItGoes$Sheet;I)I"⟩, 10) := ⟨⟨by decide +kernel, by decide +kernel⟩, List.mem_of_getElem? (i := 20) (by decide +kernel), List.mem_of_getElem? (i := 788) (by decide +kernel), List.mem_of_getElem? (i := 789) (by decide +kernel)⟩
theorem lw_p42 : lw_okq (⟨"BeforeItGoesModel", "spell", "(IIIIIIIII)V"⟩, 53) := ⟨⟨by decide +kernel, by decide +kernel⟩, List.mem_of_getElem? (i := 872) (by decide +kernel), List.mem_of_getElem? (i := 878) (by decide +kernel), List.mem_of_getElem? (i := 879) (by decide +kernel)⟩
theorem lw_p43 : lw_okq (⟨"BeforeItGoesModel", "isWall", "(I)Z"⟩, 53) := ⟨⟨by decide +kernel, by decide +kernel⟩, List.mem_of_getElem? (i := 872) (by decide +kernel), List.mem_of_getElem? (i := 1050) (by decide +kernel), List.mem_of_getElem? (i := 1051) (by decide +kernel)⟩
theorem lw_p44 : lw_okq (⟨"BeforeItGoesModel", "ripensOf", "(I)I"⟩, 53) := ⟨⟨by decide +kernel, by decide +kernel⟩, List.mem_of_getElem? (i := 872) (by decide +kernel), List.mem_of_getElem? (i := 1066) (by decide +kernel), List.mem_of_getElem? (i := 1067) (by decide +kernel)⟩
theorem lw_p45 : lw_okq (⟨"BeforeItGoesModel", "says", "(IIIII)I"⟩, 53) := ⟨⟨by decide +kernel, by decide +kernel⟩, List.mem_of_getElem? (i := 872) (by decide +kernel), List.mem_of_getElem? (i := 1070) (by decide +kernel), List.mem_of_getElem? (i := 1071) (by decide +kernel)⟩
theorem lw_p46 : lw_okq (⟨"BeforeItGoesModel", "read", "(II)I"⟩, 53) := ⟨⟨by decide +kernel, by decide +kernel⟩, List.mem_of_getElem? (i := 872) (by decide +kernel), List.mem_of_getElem? (i := 1074) (by decide +kernel), List.mem_of_getElem? (i := 1075) (by decide +kernel)⟩
theorem lw_p47 : lw_okq (⟨"BeforeItGoesModel", "next", "()V"⟩, 53) := ⟨⟨by decide +kernel, by decide +kernel⟩, List.mem_of_getElem? (i := 872) (by decide +kernel), List.mem_of_getElem? (i := 1078) (by decide +kernel), List.mem_of_getElem? (i := 1079) (by decide +kernel)⟩
def lw_privs_3 : List (MethodName × Nat) := [(⟨"BeforeItGoes", "ofDay", "(I)I"⟩, 10), (⟨"BeforeItGoes", "ofWallsDay", "(II)I"⟩, 10), (⟨"BeforeItGoes", "sheetAt", "(I)LBeforeItGoes$Sheet;"⟩, 10), (⟨"BeforeItGoes", "startOrder", "(LBeforeItGoes$Sheet;)Z"⟩, 10), (⟨"BeforeItGoes$Day", "swap", "(II)V"⟩, 17), (⟨"BeforeItGoes", "liveWith", "(II)V"⟩, 10), (⟨"BeforeItGoes", "notSo", "(LBeforeItGoes$Sheet;)I"⟩, 10), (⟨"BeforeItGoes", "dialsOf", "(LBeforeItGoes$Sheet;I)J"⟩, 10), (⟨"BeforeItGoes", "textsOf", "(LBeforeItGoes$Sheet;)I"⟩, 10), (⟨"BeforeItGoes", "kindsOf", "(LBeforeItGoes$Sheet;I)I"⟩, 10), (⟨"BeforeItGoesModel", "spell", "(IIIIIIIII)V"⟩, 53), (⟨"BeforeItGoesModel", "isWall", "(I)Z"⟩, 53), (⟨"BeforeItGoesModel", "ripensOf", "(I)I"⟩, 53), (⟨"BeforeItGoesModel", "says", "(IIIII)I"⟩, 53), (⟨"BeforeItGoesModel", "read", "(II)I"⟩, 53), (⟨"BeforeItGoesModel", "next", "()V"⟩, 53)]
theorem lw_r3 : ∀ q ∈ lw_privs_3, lw_okq q := List.forall_mem_cons.mpr ⟨lw_p32, List.forall_mem_cons.mpr ⟨lw_p33, List.forall_mem_cons.mpr ⟨lw_p34, List.forall_mem_cons.mpr ⟨lw_p35, List.forall_mem_cons.mpr ⟨lw_p36, List.forall_mem_cons.mpr ⟨lw_p37, List.forall_mem_cons.mpr ⟨lw_p38, List.forall_mem_cons.mpr ⟨lw_p39, List.forall_mem_cons.mpr ⟨lw_p40, List.forall_mem_cons.mpr ⟨lw_p41, List.forall_mem_cons.mpr ⟨lw_p42, List.forall_mem_cons.mpr ⟨lw_p43, List.forall_mem_cons.mpr ⟨lw_p44, List.forall_mem_cons.mpr ⟨lw_p45, List.forall_mem_cons.mpr ⟨lw_p46, List.forall_mem_cons.mpr ⟨lw_p47, fun _ h => absurd h List.not_mem_nil⟩⟩⟩⟩⟩⟩⟩⟩⟩⟩⟩⟩⟩⟩⟩⟩
theorem lw_p48 : lw_okq (⟨"BeforeItGoesModel", "byteAt", "(I)I"⟩, 53) := ⟨⟨by decide +kernel, by decide +kernel⟩, List.mem_of_getElem? (i := 872) (by decide +kernel), List.mem_of_getElem? (i := 1082) (by decide +kernel), List.mem_of_getElem? (i := 1083) (by decide +kernel)⟩
theorem lw_p49 : lw_okq (⟨"BeforeItGoesModel", "isWord", "(IIIIIIII)Z"⟩, 53) := ⟨⟨by decide +kernel, by decide +kernel⟩, List.mem_of_getElem? (i := 872) (by decide +kernel), List.mem_of_getElem? (i := 1091) (by decide +kernel), List.mem_of_getElem? (i := 1092) (by decide +kernel)⟩
theorem lw_p50 : lw_okq (⟨"BeforeItGoesModel", "isLetter", "(II)Z"⟩, 53) := ⟨⟨by decide +kernel, by decide +kernel⟩, List.mem_of_getElem? (i := 872) (by decide +kernel), List.mem_of_getElem? (i := 1095) (by decide +kernel), List.mem_of_getElem? (i := 1096) (by decide +kernel)⟩
theorem lw_p51 : lw_okq (⟨"BeforeItGoesModel", "part", "(Z)I"⟩, 53) := ⟨⟨by decide +kernel, by decide +kernel⟩, List.mem_of_getElem? (i := 872) (by decide +kernel), List.mem_of_getElem? (i := 1099) (by decide +kernel), List.mem_of_getElem? (i := 1100) (by decide +kernel)⟩
theorem lw_p52 : lw_okq (⟨"BeforeItGoesModel", "fail", "()V"⟩, 53) := ⟨⟨by decide +kernel, by decide +kernel⟩, List.mem_of_getElem? (i := 872) (by decide +kernel), List.mem_of_getElem? (i := 1103) (by decide +kernel), List.mem_of_getElem? (i := 1104) (by decide +kernel)⟩
theorem lw_p53 : lw_okq (⟨"BeforeItGoesModel", "either", "()I"⟩, 53) := ⟨⟨by decide +kernel, by decide +kernel⟩, List.mem_of_getElem? (i := 872) (by decide +kernel), List.mem_of_getElem? (i := 1107) (by decide +kernel), List.mem_of_getElem? (i := 1108) (by decide +kernel)⟩
theorem lw_p54 : lw_okq (⟨"BeforeItGoesModel", "both", "()I"⟩, 53) := ⟨⟨by decide +kernel, by decide +kernel⟩, List.mem_of_getElem? (i := 872) (by decide +kernel), List.mem_of_getElem? (i := 1111) (by decide +kernel), List.mem_of_getElem? (i := 1112) (by decide +kernel)⟩
theorem lw_p55 : lw_okq (⟨"BeforeItGoesModel", "not", "()I"⟩, 53) := ⟨⟨by decide +kernel, by decide +kernel⟩, List.mem_of_getElem? (i := 872) (by decide +kernel), List.mem_of_getElem? (i := 1115) (by decide +kernel), List.mem_of_getElem? (i := 1116) (by decide +kernel)⟩
theorem lw_p56 : lw_okq (⟨"BeforeItGoesModel", "opens", "()Z"⟩, 53) := ⟨⟨by decide +kernel, by decide +kernel⟩, List.mem_of_getElem? (i := 872) (by decide +kernel), List.mem_of_getElem? (i := 1119) (by decide +kernel), List.mem_of_getElem? (i := 1120) (by decide +kernel)⟩
theorem lw_p57 : lw_okq (⟨"BeforeItGoesModel", "added", "()I"⟩, 53) := ⟨⟨by decide +kernel, by decide +kernel⟩, List.mem_of_getElem? (i := 872) (by decide +kernel), List.mem_of_getElem? (i := 1123) (by decide +kernel), List.mem_of_getElem? (i := 1124) (by decide +kernel)⟩
theorem lw_p58 : lw_okq (⟨"BeforeItGoesModel", "term", "()I"⟩, 53) := ⟨⟨by decide +kernel, by decide +kernel⟩, List.mem_of_getElem? (i := 872) (by decide +kernel), List.mem_of_getElem? (i := 1127) (by decide +kernel), List.mem_of_getElem? (i := 1128) (by decide +kernel)⟩
theorem lw_p59 : lw_okq (⟨"BeforeItGoesModel", "atom", "()I"⟩, 53) := ⟨⟨by decide +kernel, by decide +kernel⟩, List.mem_of_getElem? (i := 872) (by decide +kernel), List.mem_of_getElem? (i := 1131) (by decide +kernel), List.mem_of_getElem? (i := 1132) (by decide +kernel)⟩
theorem lw_p60 : lw_okq (⟨"BeforeItGoesModel", "isSign", "(I)Z"⟩, 53) := ⟨⟨by decide +kernel, by decide +kernel⟩, List.mem_of_getElem? (i := 872) (by decide +kernel), List.mem_of_getElem? (i := 1135) (by decide +kernel), List.mem_of_getElem? (i := 1136) (by decide +kernel)⟩
theorem lw_p61 : lw_okq (⟨"BeforeItGoesModel", "name", "()I"⟩, 53) := ⟨⟨by decide +kernel, by decide +kernel⟩, List.mem_of_getElem? (i := 872) (by decide +kernel), List.mem_of_getElem? (i := 1139) (by decide +kernel), List.mem_of_getElem? (i := 1140) (by decide +kernel)⟩
theorem lw_p62 : lw_okq (⟨"BeforeItGoesModel", "lastsOf", "(I)I"⟩, 53) := ⟨⟨by decide +kernel, by decide +kernel⟩, List.mem_of_getElem? (i := 872) (by decide +kernel), List.mem_of_getElem? (i := 1148) (by decide +kernel), List.mem_of_getElem? (i := 1149) (by decide +kernel)⟩
theorem lw_p63 : lw_okq (⟨"BeforeItGoesModel", "takesOf", "(I)I"⟩, 53) := ⟨⟨by decide +kernel, by decide +kernel⟩, List.mem_of_getElem? (i := 872) (by decide +kernel), List.mem_of_getElem? (i := 1152) (by decide +kernel), List.mem_of_getElem? (i := 1153) (by decide +kernel)⟩
def lw_privs_4 : List (MethodName × Nat) := [(⟨"BeforeItGoesModel", "byteAt", "(I)I"⟩, 53), (⟨"BeforeItGoesModel", "isWord", "(IIIIIIII)Z"⟩, 53), (⟨"BeforeItGoesModel", "isLetter", "(II)Z"⟩, 53), (⟨"BeforeItGoesModel", "part", "(Z)I"⟩, 53), (⟨"BeforeItGoesModel", "fail", "()V"⟩, 53), (⟨"BeforeItGoesModel", "either", "()I"⟩, 53), (⟨"BeforeItGoesModel", "both", "()I"⟩, 53), (⟨"BeforeItGoesModel", "not", "()I"⟩, 53), (⟨"BeforeItGoesModel", "opens", "()Z"⟩, 53), (⟨"BeforeItGoesModel", "added", "()I"⟩, 53), (⟨"BeforeItGoesModel", "term", "()I"⟩, 53), (⟨"BeforeItGoesModel", "atom", "()I"⟩, 53), (⟨"BeforeItGoesModel", "isSign", "(I)Z"⟩, 53), (⟨"BeforeItGoesModel", "name", "()I"⟩, 53), (⟨"BeforeItGoesModel", "lastsOf", "(I)I"⟩, 53), (⟨"BeforeItGoesModel", "takesOf", "(I)I"⟩, 53)]
theorem lw_r4 : ∀ q ∈ lw_privs_4, lw_okq q := List.forall_mem_cons.mpr ⟨lw_p48, List.forall_mem_cons.mpr ⟨lw_p49, List.forall_mem_cons.mpr ⟨lw_p50, List.forall_mem_cons.mpr ⟨lw_p51, List.forall_mem_cons.mpr ⟨lw_p52, List.forall_mem_cons.mpr ⟨lw_p53, List.forall_mem_cons.mpr ⟨lw_p54, List.forall_mem_cons.mpr ⟨lw_p55, List.forall_mem_cons.mpr ⟨lw_p56, List.forall_mem_cons.mpr ⟨lw_p57, List.forall_mem_cons.mpr ⟨lw_p58, List.forall_mem_cons.mpr ⟨lw_p59, List.forall_mem_cons.mpr ⟨lw_p60, List.forall_mem_cons.mpr ⟨lw_p61, List.forall_mem_cons.mpr ⟨lw_p62, List.forall_mem_cons.mpr ⟨lw_p63, fun _ h => absurd h List.not_mem_nil⟩⟩⟩⟩⟩⟩⟩⟩⟩⟩⟩⟩⟩⟩⟩⟩
theorem lw_p64 : lw_okq (⟨"BeforeItGoesModel", "isTells", "(I)Z"⟩, 53) := ⟨⟨by decide +kernel, by decide +kernel⟩, List.mem_of_getElem? (i := 872) (by decide +kernel), List.mem_of_getElem? (i := 1173) (by decide +kernel), List.mem_of_getElem? (i := 1174) (by decide +kernel)⟩
theorem lw_p65 : lw_okq (⟨"BeforeItGoesModel", "livesPlain", "(I)V"⟩, 53) := ⟨⟨by decide +kernel, by decide +kernel⟩, List.mem_of_getElem? (i := 872) (by decide +kernel), List.mem_of_getElem? (i := 1180) (by decide +kernel), List.mem_of_getElem? (i := 1181) (by decide +kernel)⟩
theorem lw_p66 : lw_okq (⟨"BeforeItGoesModel", "gathers", "()V"⟩, 53) := ⟨⟨by decide +kernel, by decide +kernel⟩, List.mem_of_getElem? (i := 872) (by decide +kernel), List.mem_of_getElem? (i := 1184) (by decide +kernel), List.mem_of_getElem? (i := 1185) (by decide +kernel)⟩
theorem lw_p67 : lw_okq (⟨"BeforeItGoesModel", "lives", "()V"⟩, 53) := ⟨⟨by decide +kernel, by decide +kernel⟩, List.mem_of_getElem? (i := 872) (by decide +kernel), List.mem_of_getElem? (i := 1188) (by decide +kernel), List.mem_of_getElem? (i := 1189) (by decide +kernel)⟩
theorem lw_p68 : lw_okq (⟨"BeforeItGoesModel", "toTrowel", "()I"⟩, 53) := ⟨⟨by decide +kernel, by decide +kernel⟩, List.mem_of_getElem? (i := 872) (by decide +kernel), List.mem_of_getElem? (i := 1192) (by decide +kernel), List.mem_of_getElem? (i := 1193) (by decide +kernel)⟩
theorem lw_p69 : lw_okq (⟨"BeforeItGoesModel", "trowels", "(I)V"⟩, 53) := ⟨⟨by decide +kernel, by decide +kernel⟩, List.mem_of_getElem? (i := 872) (by decide +kernel), List.mem_of_getElem? (i := 1196) (by decide +kernel), List.mem_of_getElem? (i := 1197) (by decide +kernel)⟩
theorem lw_p70 : lw_okq (⟨"BeforeItGoesModel", "begins", "(I)V"⟩, 53) := ⟨⟨by decide +kernel, by decide +kernel⟩, List.mem_of_getElem? (i := 872) (by decide +kernel), List.mem_of_getElem? (i := 1200) (by decide +kernel), List.mem_of_getElem? (i := 1201) (by decide +kernel)⟩
theorem lw_p71 : lw_okq (⟨"BeforeItGoesModel", "tells", "(I)I"⟩, 53) := ⟨⟨by decide +kernel, by decide +kernel⟩, List.mem_of_getElem? (i := 872) (by decide +kernel), List.mem_of_getElem? (i := 1204) (by decide +kernel), List.mem_of_getElem? (i := 1205) (by decide +kernel)⟩
theorem lw_p72 : lw_okq (⟨"BeforeItGoesModel", "setOf", "(I)I"⟩, 53) := ⟨⟨by decide +kernel, by decide +kernel⟩, List.mem_of_getElem? (i := 872) (by decide +kernel), List.mem_of_getElem? (i := 1208) (by decide +kernel), List.mem_of_getElem? (i := 1209) (by decide +kernel)⟩
theorem lw_p73 : lw_okq (⟨"BeforeItGoesModel", "laysOrder", "(I)Z"⟩, 53) := ⟨⟨by decide +kernel, by decide +kernel⟩, List.mem_of_getElem? (i := 872) (by decide +kernel), List.mem_of_getElem? (i := 1220) (by decide +kernel), List.mem_of_getElem? (i := 1221) (by decide +kernel)⟩
theorem lw_p74 : lw_okq (⟨"BeforeItGoesModel", "triesFrom", "(II)V"⟩, 53) := ⟨⟨by decide +kernel, by decide +kernel⟩, List.mem_of_getElem? (i := 872) (by decide +kernel), List.mem_of_getElem? (i := 1229) (by decide +kernel), List.mem_of_getElem? (i := 1230) (by decide +kernel)⟩
theorem lw_p75 : lw_okq (⟨"BeforeItGoesModel", "wet", "(I)V"⟩, 53) := ⟨⟨by decide +kernel, by decide +kernel⟩, List.mem_of_getElem? (i := 872) (by decide +kernel), List.mem_of_getElem? (i := 1242) (by decide +kernel), List.mem_of_getElem? (i := 1243) (by decide +kernel)⟩
theorem lw_p76 : lw_okq (⟨"BeforeItGoesModel", "livesBy", "(II)V"⟩, 53) := ⟨⟨by decide +kernel, by decide +kernel⟩, List.mem_of_getElem? (i := 872) (by decide +kernel), List.mem_of_getElem? (i := 1257) (by decide +kernel), List.mem_of_getElem? (i := 1258) (by decide +kernel)⟩
theorem lw_p77 : lw_okq (⟨"BeforeItGoesModel", "tellsSort", "(I)I"⟩, 53) := ⟨⟨by decide +kernel, by decide +kernel⟩, List.mem_of_getElem? (i := 872) (by decide +kernel), List.mem_of_getElem? (i := 1275) (by decide +kernel), List.mem_of_getElem? (i := 1276) (by decide +kernel)⟩
theorem lw_p78 : lw_okq (⟨"BeforeItGoesModel", "laysSort", "(II)V"⟩, 53) := ⟨⟨by decide +kernel, by decide +kernel⟩, List.mem_of_getElem? (i := 872) (by decide +kernel), List.mem_of_getElem? (i := 1279) (by decide +kernel), List.mem_of_getElem? (i := 1280) (by decide +kernel)⟩
theorem lw_p79 : lw_okq (⟨"BeforeItGoesModel", "isSo", "(I)Z"⟩, 53) := ⟨⟨by decide +kernel, by decide +kernel⟩, List.mem_of_getElem? (i := 872) (by decide +kernel), List.mem_of_getElem? (i := 1283) (by decide +kernel), List.mem_of_getElem? (i := 1284) (by decide +kernel)⟩
def lw_privs_5 : List (MethodName × Nat) := [(⟨"BeforeItGoesModel", "isTells", "(I)Z"⟩, 53), (⟨"BeforeItGoesModel", "livesPlain", "(I)V"⟩, 53), (⟨"BeforeItGoesModel", "gathers", "()V"⟩, 53), (⟨"BeforeItGoesModel", "lives", "()V"⟩, 53), (⟨"BeforeItGoesModel", "toTrowel", "()I"⟩, 53), (⟨"BeforeItGoesModel", "trowels", "(I)V"⟩, 53), (⟨"BeforeItGoesModel", "begins", "(I)V"⟩, 53), (⟨"BeforeItGoesModel", "tells", "(I)I"⟩, 53), (⟨"BeforeItGoesModel", "setOf", "(I)I"⟩, 53), (⟨"BeforeItGoesModel", "laysOrder", "(I)Z"⟩, 53), (⟨"BeforeItGoesModel", "triesFrom", "(II)V"⟩, 53), (⟨"BeforeItGoesModel", "wet", "(I)V"⟩, 53), (⟨"BeforeItGoesModel", "livesBy", "(II)V"⟩, 53), (⟨"BeforeItGoesModel", "tellsSort", "(I)I"⟩, 53), (⟨"BeforeItGoesModel", "laysSort", "(II)V"⟩, 53), (⟨"BeforeItGoesModel", "isSo", "(I)Z"⟩, 53)]
theorem lw_r5 : ∀ q ∈ lw_privs_5, lw_okq q := List.forall_mem_cons.mpr ⟨lw_p64, List.forall_mem_cons.mpr ⟨lw_p65, List.forall_mem_cons.mpr ⟨lw_p66, List.forall_mem_cons.mpr ⟨lw_p67, List.forall_mem_cons.mpr ⟨lw_p68, List.forall_mem_cons.mpr ⟨lw_p69, List.forall_mem_cons.mpr ⟨lw_p70, List.forall_mem_cons.mpr ⟨lw_p71, List.forall_mem_cons.mpr ⟨lw_p72, List.forall_mem_cons.mpr ⟨lw_p73, List.forall_mem_cons.mpr ⟨lw_p74, List.forall_mem_cons.mpr ⟨lw_p75, List.forall_mem_cons.mpr ⟨lw_p76, List.forall_mem_cons.mpr ⟨lw_p77, List.forall_mem_cons.mpr ⟨lw_p78, List.forall_mem_cons.mpr ⟨lw_p79, fun _ h => absurd h List.not_mem_nil⟩⟩⟩⟩⟩⟩⟩⟩⟩⟩⟩⟩⟩⟩⟩⟩
theorem lw_p80 : lw_okq (⟨"BeforeItGoesModel", "draws", "(I)V"⟩, 53) := ⟨⟨by decide +kernel, by decide +kernel⟩, List.mem_of_getElem? (i := 872) (by decide +kernel), List.mem_of_getElem? (i := 1305) (by decide +kernel), List.mem_of_getElem? (i := 1306) (by decide +kernel)⟩
def lw_privs_6 : List (MethodName × Nat) := [(⟨"BeforeItGoesModel", "draws", "(I)V"⟩, 53)]
theorem lw_r6 : ∀ q ∈ lw_privs_6, lw_okq q := List.forall_mem_cons.mpr ⟨lw_p80, fun _ h => absurd h List.not_mem_nil⟩
def lw_privs : List (MethodName × Nat) := lw_privs_1 ++ (lw_privs_2 ++ (lw_privs_3 ++ (lw_privs_4 ++ (lw_privs_5 ++ (lw_privs_6)))))
def lw_tbl : List Cond := k2_sels lw_privs ++ tables_1
theorem lw_privs_ok : ∀ q ∈ lw_privs, lw_okq q := by
  show ∀ q ∈ lw_privs_1 ++ (lw_privs_2 ++ (lw_privs_3 ++ (lw_privs_4 ++ (lw_privs_5 ++ (lw_privs_6))))), lw_okq q
  exact List.forall_mem_append.mpr ⟨lw_r1, List.forall_mem_append.mpr ⟨lw_r2, List.forall_mem_append.mpr ⟨lw_r3, List.forall_mem_append.mpr ⟨lw_r4, List.forall_mem_append.mpr ⟨lw_r5, lw_r6⟩⟩⟩⟩⟩
end
section
-- printed by TURN (NAMES): names, fields
def RX0 : String := "BeforeItGoes$Day"
def TX0 : u_T := fun k => match k with
  | 0 => ("BeforeItGoes$Day", "site", "LBeforeItGoes$Site;", true)
  | 1 => ("BeforeItGoes$Day", "texts", "[LBeforeItGoes$Text;", true)
  | 2 => ("BeforeItGoes$Day", "stack", "[I", true)
  | 3 => ("BeforeItGoes$Day", "names", "[I", true)
  | 4 => ("BeforeItGoes$Day", "row", "[I", true)
  | 5 => ("BeforeItGoes$Day", "ripens", "[I", true)
  | 6 => ("BeforeItGoes$Day", "lasts", "[I", true)
  | 7 => ("BeforeItGoes$Day", "takes", "[I", true)
  | 8 => ("BeforeItGoes$Day", "begun", "[I", true)
  | 9 => ("BeforeItGoes$Day", "ripe", "[I", true)
  | 10 => ("BeforeItGoes$Day", "trowelled", "[I", true)
  | 11 => ("BeforeItGoes$Day", "off", "[I", true)
  | 12 => ("BeforeItGoes$Day", "put", "I", false)
  | 13 => ("BeforeItGoes$Day", "ended", "I", false)
  | 14 => ("BeforeItGoes$Day", "minute", "I", false)
  | 15 => ("BeforeItGoes$Day", "waited", "I", false)
  | _ => ("BeforeItGoes$Day", "bad", "I", false)
def tyX0 : Nat → FieldType := fun k => match k with
  | 0 => .object "BeforeItGoes$Site"
  | 1 => .array (.object "BeforeItGoes$Text")
  | 2 => .array .int
  | 3 => .array .int
  | 4 => .array .int
  | 5 => .array .int
  | 6 => .array .int
  | 7 => .array .int
  | 8 => .array .int
  | 9 => .array .int
  | 10 => .array .int
  | 11 => .array .int
  | 12 => .int
  | 13 => .int
  | 14 => .int
  | 15 => .int
  | _ => .int
abbrev wsX00 : List Cond := u_ws RX0 TX0 17
theorem nmX0 : ∀ a, a < 17 → ∀ b, b < 17 → a ≠ b → (TX0 a).2.1 ≠ (TX0 b).2.1 := by decide +kernel
theorem tyX0_ok : ∀ k, k < 17 → parseFieldDescriptor (TX0 k).2.2.1 = some (tyX0 k) := by decide +kernel
abbrev cX0_init : ByteArray := prog_2_method_1_code
def yX0_init : MethodName := ⟨RX0, "<init>", "([LBeforeItGoes$Text;)V"⟩
abbrev cX0_reckon : ByteArray := prog_2_method_2_code
def yX0_reckon : MethodName := ⟨RX0, "reckon", "()V"⟩
abbrev cX0_tells : ByteArray := prog_2_method_3_code
def yX0_tells : MethodName := ⟨RX0, "tells", "(III)I"⟩
abbrev cX0_place : ByteArray := prog_2_method_4_code
def yX0_place : MethodName := ⟨RX0, "place", "(II)V"⟩
abbrev cX0_live : ByteArray := prog_2_method_5_code
def yX0_live : MethodName := ⟨RX0, "live", "()V"⟩
abbrev cX0_dawn : ByteArray := prog_2_method_6_code
def yX0_dawn : MethodName := ⟨RX0, "dawn", "()V"⟩
abbrev cX0_firstRipe : ByteArray := prog_2_method_7_code
def yX0_firstRipe : MethodName := ⟨RX0, "firstRipe", "()I"⟩
abbrev cX0_trowel : ByteArray := prog_2_method_8_code
def yX0_trowel : MethodName := ⟨RX0, "trowel", "(I)V"⟩
abbrev cX0_mayBegin : ByteArray := prog_2_method_9_code
def yX0_mayBegin : MethodName := ⟨RX0, "mayBegin", "()Z"⟩
abbrev cX0_nextBegins : ByteArray := prog_2_method_10_code
def yX0_nextBegins : MethodName := ⟨RX0, "nextBegins", "()I"⟩
abbrev cX0_begin : ByteArray := prog_2_method_11_code
def yX0_begin : MethodName := ⟨RX0, "begin", "(I)V"⟩
abbrev cX0_waitOn : ByteArray := prog_2_method_12_code
def yX0_waitOn : MethodName := ⟨RX0, "waitOn", "()V"⟩
abbrev cX0_late : ByteArray := prog_2_method_13_code
def yX0_late : MethodName := ⟨RX0, "late", "()I"⟩
abbrev cX0_early : ByteArray := prog_2_method_14_code
def yX0_early : MethodName := ⟨RX0, "early", "()I"⟩
abbrev cX0_unlike : ByteArray := prog_2_method_15_code
def yX0_unlike : MethodName := ⟨RX0, "unlike", "(LBeforeItGoes$Sheet;)I"⟩
abbrev cX0_rowAsDigits : ByteArray := prog_2_method_16_code
def yX0_rowAsDigits : MethodName := ⟨RX0, "rowAsDigits", "()I"⟩
abbrev cX0_nextRow : ByteArray := prog_2_method_17_code
def yX0_nextRow : MethodName := ⟨RX0, "nextRow", "()Z"⟩
abbrev cX0_swap : ByteArray := prog_2_method_18_code
def yX0_swap : MethodName := ⟨RX0, "swap", "(II)V"⟩
def RX1 : String := "BeforeItGoes$Kind"
def TX1 : u_T := fun k => match k with
  | _ => ("", "", "", false)
def tyX1 : Nat → FieldType := fun k => match k with
  | _ => .int
abbrev wsX10 : List Cond := u_ws RX1 TX1 0
theorem nmX1 : ∀ a, a < 0 → ∀ b, b < 0 → a ≠ b → (TX1 a).2.1 ≠ (TX1 b).2.1 := by decide +kernel
theorem tyX1_ok : ∀ k, k < 0 → parseFieldDescriptor (TX1 k).2.2.1 = some (tyX1 k) := by decide +kernel
abbrev cX1_ripens : ByteArray := prog_3_method_2_code
def yX1_ripens : MethodName := ⟨RX1, "ripens", "(IIZI)I"⟩
abbrev cX1_lasts : ByteArray := prog_3_method_3_code
def yX1_lasts : MethodName := ⟨RX1, "lasts", "(II)I"⟩
abbrev cX1_takes : ByteArray := prog_3_method_4_code
def yX1_takes : MethodName := ⟨RX1, "takes", "(III)I"⟩
abbrev cX1_isUnder : ByteArray := prog_3_method_5_code
def yX1_isUnder : MethodName := ⟨RX1, "isUnder", "(II)Z"⟩
def RX2 : String := "BeforeItGoes$Pick"
def TX2 : u_T := fun k => match k with
  | 0 => ("BeforeItGoes$Pick", "any", "Z", false)
  | 1 => ("BeforeItGoes$Pick", "which", "I", false)
  | 2 => ("BeforeItGoes$Pick", "bad", "I", false)
  | _ => ("BeforeItGoes$Pick", "done", "I", false)
def tyX2 : Nat → FieldType := fun k => match k with
  | 0 => .boolean
  | 1 => .int
  | 2 => .int
  | _ => .int
abbrev wsX20 : List Cond := u_ws RX2 TX2 4
theorem nmX2 : ∀ a, a < 4 → ∀ b, b < 4 → a ≠ b → (TX2 a).2.1 ≠ (TX2 b).2.1 := by decide +kernel
theorem tyX2_ok : ∀ k, k < 4 → parseFieldDescriptor (TX2 k).2.2.1 = some (tyX2 k) := by decide +kernel
abbrev cX2_init : ByteArray := prog_4_method_1_code
def yX2_init : MethodName := ⟨RX2, "<init>", "()V"⟩
abbrev cX2_clear : ByteArray := prog_4_method_2_code
def yX2_clear : MethodName := ⟨RX2, "clear", "()V"⟩
abbrev cX2_offer : ByteArray := prog_4_method_3_code
def yX2_offer : MethodName := ⟨RX2, "offer", "(III)V"⟩
def RX3 : String := "BeforeItGoes$Reader"
def TX3 : u_T := fun k => match k with
  | 0 => ("BeforeItGoes$Reader", "tape", "LBeforeItGoes$Tape;", true)
  | 1 => ("BeforeItGoes$Reader", "draft", "LBeforeItGoes$Text;", true)
  | 2 => ("BeforeItGoes$Reader", "at", "I", false)
  | 3 => ("BeforeItGoes$Reader", "open", "I", false)
  | _ => ("BeforeItGoes$Reader", "fault", "I", false)
def tyX3 : Nat → FieldType := fun k => match k with
  | 0 => .object "BeforeItGoes$Tape"
  | 1 => .object "BeforeItGoes$Text"
  | 2 => .int
  | 3 => .int
  | _ => .int
abbrev wsX30 : List Cond := u_ws RX3 TX3 5
theorem nmX3 : ∀ a, a < 5 → ∀ b, b < 5 → a ≠ b → (TX3 a).2.1 ≠ (TX3 b).2.1 := by decide +kernel
theorem tyX3_ok : ∀ k, k < 5 → parseFieldDescriptor (TX3 k).2.2.1 = some (tyX3 k) := by decide +kernel
abbrev cX3_init : ByteArray := prog_5_method_1_code
def yX3_init : MethodName := ⟨RX3, "<init>", "(LBeforeItGoes$Tape;)V"⟩
abbrev cX3_read : ByteArray := prog_5_method_2_code
def yX3_read : MethodName := ⟨RX3, "read", "()I"⟩
abbrev cX3_is : ByteArray := prog_5_method_3_code
def yX3_is : MethodName := ⟨RX3, "is", "(I)Z"⟩
abbrev cX3_token : ByteArray := prog_5_method_4_code
def yX3_token : MethodName := ⟨RX3, "token", "()I"⟩
abbrev cX3_next : ByteArray := prog_5_method_5_code
def yX3_next : MethodName := ⟨RX3, "next", "()V"⟩
abbrev cX3_fail : ByteArray := prog_5_method_6_code
def yX3_fail : MethodName := ⟨RX3, "fail", "()V"⟩
abbrev cX3_expect : ByteArray := prog_5_method_7_code
def yX3_expect : MethodName := ⟨RX3, "expect", "(I)V"⟩
abbrev cX3_opens : ByteArray := prog_5_method_8_code
def yX3_opens : MethodName := ⟨RX3, "opens", "()Z"⟩
abbrev cX3_readE : ByteArray := prog_5_method_9_code
def yX3_readE : MethodName := ⟨RX3, "readE", "()V"⟩
abbrev cX3_readAnd : ByteArray := prog_5_method_10_code
def yX3_readAnd : MethodName := ⟨RX3, "readAnd", "()V"⟩
abbrev cX3_readNot : ByteArray := prog_5_method_11_code
def yX3_readNot : MethodName := ⟨RX3, "readNot", "()V"⟩
abbrev cX3_readCompared : ByteArray := prog_5_method_12_code
def yX3_readCompared : MethodName := ⟨RX3, "readCompared", "()V"⟩
abbrev cX3_readSum : ByteArray := prog_5_method_13_code
def yX3_readSum : MethodName := ⟨RX3, "readSum", "()V"⟩
abbrev cX3_readTerm : ByteArray := prog_5_method_14_code
def yX3_readTerm : MethodName := ⟨RX3, "readTerm", "()V"⟩
abbrev cX3_readOne : ByteArray := prog_5_method_15_code
def yX3_readOne : MethodName := ⟨RX3, "readOne", "()V"⟩
abbrev cX3_number : ByteArray := prog_5_method_16_code
def yX3_number : MethodName := ⟨RX3, "number", "()I"⟩
abbrev cX3_readMinus : ByteArray := prog_5_method_17_code
def yX3_readMinus : MethodName := ⟨RX3, "readMinus", "()V"⟩
abbrev cX3_readBracket : ByteArray := prog_5_method_18_code
def yX3_readBracket : MethodName := ⟨RX3, "readBracket", "()V"⟩
def RX4 : String := "BeforeItGoes$Sheet"
def TX4 : u_T := fun k => match k with
  | 0 => ("BeforeItGoes$Sheet", "items", "[I", true)
  | 1 => ("BeforeItGoes$Sheet", "sort", "I", false)
  | _ => ("BeforeItGoes$Sheet", "size", "I", false)
def tyX4 : Nat → FieldType := fun k => match k with
  | 0 => .array .int
  | 1 => .int
  | _ => .int
abbrev wsX40 : List Cond := u_ws RX4 TX4 3
theorem nmX4 : ∀ a, a < 3 → ∀ b, b < 3 → a ≠ b → (TX4 a).2.1 ≠ (TX4 b).2.1 := by decide +kernel
theorem tyX4_ok : ∀ k, k < 3 → parseFieldDescriptor (TX4 k).2.2.1 = some (tyX4 k) := by decide +kernel
abbrev cX4_init : ByteArray := prog_6_method_1_code
def yX4_init : MethodName := ⟨RX4, "<init>", "()V"⟩
abbrev cX4_isMissing : ByteArray := prog_6_method_2_code
def yX4_isMissing : MethodName := ⟨RX4, "isMissing", "()Z"⟩
abbrev cX4_has : ByteArray := prog_6_method_3_code
def yX4_has : MethodName := ⟨RX4, "has", "(I)Z"⟩
abbrev cX4_hasRun : ByteArray := prog_6_method_4_code
def yX4_hasRun : MethodName := ⟨RX4, "hasRun", "(II)Z"⟩
abbrev cX4_become : ByteArray := prog_6_method_5_code
def yX4_become : MethodName := ⟨RX4, "become", "(II)V"⟩
abbrev cX4_put : ByteArray := prog_6_method_6_code
def yX4_put : MethodName := ⟨RX4, "put", "(II)V"⟩
def RX5 : String := "BeforeItGoes$Site"
def TX5 : u_T := fun k => match k with
  | 0 => ("BeforeItGoes$Site", "dials", "[I", true)
  | 1 => ("BeforeItGoes$Site", "kinds", "[I", true)
  | 2 => ("BeforeItGoes$Site", "numbers", "[I", true)
  | 3 => ("BeforeItGoes$Site", "yards", "[I", true)
  | 4 => ("BeforeItGoes$Site", "wets", "[I", true)
  | 5 => ("BeforeItGoes$Site", "size", "I", false)
  | _ => ("BeforeItGoes$Site", "rule", "I", false)
def tyX5 : Nat → FieldType := fun k => match k with
  | 0 => .array .int
  | 1 => .array .int
  | 2 => .array .int
  | 3 => .array .int
  | 4 => .array .int
  | 5 => .int
  | _ => .int
abbrev wsX50 : List Cond := u_ws RX5 TX5 7
theorem nmX5 : ∀ a, a < 7 → ∀ b, b < 7 → a ≠ b → (TX5 a).2.1 ≠ (TX5 b).2.1 := by decide +kernel
theorem tyX5_ok : ∀ k, k < 7 → parseFieldDescriptor (TX5 k).2.2.1 = some (tyX5 k) := by decide +kernel
abbrev cX5_init : ByteArray := prog_7_method_1_code
def yX5_init : MethodName := ⟨RX5, "<init>", "()V"⟩
abbrev cX5_has : ByteArray := prog_7_method_2_code
def yX5_has : MethodName := ⟨RX5, "has", "(I)Z"⟩
abbrev cX5_turn : ByteArray := prog_7_method_3_code
def yX5_turn : MethodName := ⟨RX5, "turn", "(II)V"⟩
abbrev cX5_rowOf : ByteArray := prog_7_method_4_code
def yX5_rowOf : MethodName := ⟨RX5, "rowOf", "(I)[I"⟩
abbrev cX5_add : ByteArray := prog_7_method_5_code
def yX5_add : MethodName := ⟨RX5, "add", "(III)I"⟩
abbrev cX5_wetJust : ByteArray := prog_7_method_6_code
def yX5_wetJust : MethodName := ⟨RX5, "wetJust", "(I)V"⟩
abbrev cX5_become : ByteArray := prog_7_method_7_code
def yX5_become : MethodName := ⟨RX5, "become", "(LBeforeItGoes$Site;)V"⟩
def RX6 : String := "BeforeItGoes$Tape"
def TX6 : u_T := fun k => match k with
  | 0 => ("BeforeItGoes$Tape", "bytes", "[I", true)
  | 1 => ("BeforeItGoes$Tape", "size", "I", false)
  | 2 => ("BeforeItGoes$Tape", "tokens", "[I", true)
  | 3 => ("BeforeItGoes$Tape", "starts", "[I", true)
  | 4 => ("BeforeItGoes$Tape", "numbers", "[I", true)
  | _ => ("BeforeItGoes$Tape", "last", "I", false)
def tyX6 : Nat → FieldType := fun k => match k with
  | 0 => .array .int
  | 1 => .int
  | 2 => .array .int
  | 3 => .array .int
  | 4 => .array .int
  | _ => .int
abbrev wsX60 : List Cond := u_ws RX6 TX6 6
theorem nmX6 : ∀ a, a < 6 → ∀ b, b < 6 → a ≠ b → (TX6 a).2.1 ≠ (TX6 b).2.1 := by decide +kernel
theorem tyX6_ok : ∀ k, k < 6 → parseFieldDescriptor (TX6 k).2.2.1 = some (tyX6 k) := by decide +kernel
abbrev cX6_init : ByteArray := prog_8_method_1_code
def yX6_init : MethodName := ⟨RX6, "<init>", "()V"⟩
abbrev cX6_add : ByteArray := prog_8_method_2_code
def yX6_add : MethodName := ⟨RX6, "add", "(I)I"⟩
abbrev cX6_clear : ByteArray := prog_8_method_3_code
def yX6_clear : MethodName := ⟨RX6, "clear", "()V"⟩
abbrev cX6_cut : ByteArray := prog_8_method_4_code
def yX6_cut : MethodName := ⟨RX6, "cut", "()V"⟩
abbrev cX6_endOf : ByteArray := prog_8_method_5_code
def yX6_endOf : MethodName := ⟨RX6, "endOf", "(I)I"⟩
abbrev cX6_tokenOf : ByteArray := prog_8_method_6_code
def yX6_tokenOf : MethodName := ⟨RX6, "tokenOf", "(II)I"⟩
abbrev cX6_numberOf : ByteArray := prog_8_method_7_code
def yX6_numberOf : MethodName := ⟨RX6, "numberOf", "(II)I"⟩
abbrev cX6_spells : ByteArray := prog_8_method_8_code
def yX6_spells : MethodName := ⟨RX6, "spells", "(Ljava/lang/String;II)Z"⟩
abbrev cX6_isLetter : ByteArray := prog_8_method_9_code
def yX6_isLetter : MethodName := ⟨RX6, "isLetter", "(I)Z"⟩
abbrev cX6_isDigit : ByteArray := prog_8_method_10_code
def yX6_isDigit : MethodName := ⟨RX6, "isDigit", "(I)Z"⟩
abbrev cX6_wordOf : ByteArray := prog_8_method_11_code
def yX6_wordOf : MethodName := ⟨RX6, "wordOf", "(I)Ljava/lang/String;"⟩
def RX7 : String := "BeforeItGoes$Text"
def TX7 : u_T := fun k => match k with
  | 0 => ("BeforeItGoes$Text", "codes", "[I", true)
  | 1 => ("BeforeItGoes$Text", "ends", "[I", true)
  | _ => ("BeforeItGoes$Text", "size", "I", false)
def tyX7 : Nat → FieldType := fun k => match k with
  | 0 => .array .int
  | 1 => .array .int
  | _ => .int
abbrev wsX70 : List Cond := u_ws RX7 TX7 3
theorem nmX7 : ∀ a, a < 3 → ∀ b, b < 3 → a ≠ b → (TX7 a).2.1 ≠ (TX7 b).2.1 := by decide +kernel
theorem tyX7_ok : ∀ k, k < 3 → parseFieldDescriptor (TX7 k).2.2.1 = some (tyX7 k) := by decide +kernel
abbrev cX7_init : ByteArray := prog_9_method_1_code
def yX7_init : MethodName := ⟨RX7, "<init>", "()V"⟩
abbrev cX7_clear : ByteArray := prog_9_method_2_code
def yX7_clear : MethodName := ⟨RX7, "clear", "()V"⟩
abbrev cX7_add : ByteArray := prog_9_method_3_code
def yX7_add : MethodName := ⟨RX7, "add", "(I)V"⟩
abbrev cX7_endPart : ByteArray := prog_9_method_4_code
def yX7_endPart : MethodName := ⟨RX7, "endPart", "(I)V"⟩
abbrev cX7_become : ByteArray := prog_9_method_5_code
def yX7_become : MethodName := ⟨RX7, "become", "(LBeforeItGoes$Text;)V"⟩
abbrev cX7_value : ByteArray := prog_9_method_6_code
def yX7_value : MethodName := ⟨RX7, "value", "(I[I[I)I"⟩
abbrev cX7_joined : ByteArray := prog_9_method_7_code
def yX7_joined : MethodName := ⟨RX7, "joined", "(III)I"⟩
def RX8 : String := "BeforeItGoes"
def TX8 : u_T := fun k => match k with
  | 0 => ("BeforeItGoes", "site", "LBeforeItGoes$Site;", true)
  | 1 => ("BeforeItGoes", "keptSite", "LBeforeItGoes$Site;", true)
  | 2 => ("BeforeItGoes", "hasImage", "Z", false)
  | 3 => ("BeforeItGoes", "tape", "LBeforeItGoes$Tape;", true)
  | 4 => ("BeforeItGoes", "reader", "LBeforeItGoes$Reader;", true)
  | 5 => ("BeforeItGoes", "texts", "[LBeforeItGoes$Text;", true)
  | 6 => ("BeforeItGoes", "textCount", "I", false)
  | 7 => ("BeforeItGoes", "trial", "LBeforeItGoes$Day;", true)
  | 8 => ("BeforeItGoes", "pick", "LBeforeItGoes$Pick;", true)
  | _ => ("BeforeItGoes", "sheets", "[LBeforeItGoes$Sheet;", true)
def tyX8 : Nat → FieldType := fun k => match k with
  | 0 => .object "BeforeItGoes$Site"
  | 1 => .object "BeforeItGoes$Site"
  | 2 => .boolean
  | 3 => .object "BeforeItGoes$Tape"
  | 4 => .object "BeforeItGoes$Reader"
  | 5 => .array (.object "BeforeItGoes$Text")
  | 6 => .int
  | 7 => .object "BeforeItGoes$Day"
  | 8 => .object "BeforeItGoes$Pick"
  | _ => .array (.object "BeforeItGoes$Sheet")
abbrev wsX80 : List Cond := u_ws RX8 TX8 10
theorem nmX8 : ∀ a, a < 10 → ∀ b, b < 10 → a ≠ b → (TX8 a).2.1 ≠ (TX8 b).2.1 := by decide +kernel
theorem tyX8_ok : ∀ k, k < 10 → parseFieldDescriptor (TX8 k).2.2.1 = some (tyX8 k) := by decide +kernel
abbrev cX8_init : ByteArray := prog_1_method_1_code
def yX8_init : MethodName := ⟨RX8, "<init>", "()V"⟩
abbrev cX8_set : ByteArray := prog_1_method_2_code
def yX8_set : MethodName := ⟨RX8, "set", "(III)I"⟩
abbrev cX8_wall : ByteArray := prog_1_method_3_code
def yX8_wall : MethodName := ⟨RX8, "wall", "(III)I"⟩
abbrev cX8_told : ByteArray := prog_1_method_4_code
def yX8_told : MethodName := ⟨RX8, "told", "(II)I"⟩
abbrev cX8_reckoned : ByteArray := prog_1_method_5_code
def yX8_reckoned : MethodName := ⟨RX8, "reckoned", "(II)I"⟩
abbrev cX8_isKind : ByteArray := prog_1_method_6_code
def yX8_isKind : MethodName := ⟨RX8, "isKind", "(I)Z"⟩
abbrev cX8_feed : ByteArray := prog_1_method_7_code
def yX8_feed : MethodName := ⟨RX8, "feed", "(I)I"⟩
abbrev cX8_text : ByteArray := prog_1_method_8_code
def yX8_text : MethodName := ⟨RX8, "text", "()I"⟩
abbrev cX8_learn : ByteArray := prog_1_method_9_code
def yX8_learn : MethodName := ⟨RX8, "learn", "()I"⟩
abbrev cX8_force : ByteArray := prog_1_method_10_code
def yX8_force : MethodName := ⟨RX8, "force", "(I)I"⟩
abbrev cX8_day : ByteArray := prog_1_method_11_code
def yX8_day : MethodName := ⟨RX8, "day", "(I)I"⟩
abbrev cX8_order : ByteArray := prog_1_method_12_code
def yX8_order : MethodName := ⟨RX8, "order", "(II)I"⟩
abbrev cX8_startOrder : ByteArray := prog_1_method_13_code
def yX8_startOrder : MethodName := ⟨RX8, "startOrder", "(LBeforeItGoes$Sheet;)Z"⟩
abbrev cX8_isOfDay : ByteArray := prog_1_method_14_code
def yX8_isOfDay : MethodName := ⟨RX8, "isOfDay", "(I)Z"⟩
abbrev cX8_ofDay : ByteArray := prog_1_method_15_code
def yX8_ofDay : MethodName := ⟨RX8, "ofDay", "(I)I"⟩
abbrev cX8_ofWallsDay : ByteArray := prog_1_method_16_code
def yX8_ofWallsDay : MethodName := ⟨RX8, "ofWallsDay", "(II)I"⟩
abbrev cX8_startTrial : ByteArray := prog_1_method_17_code
def yX8_startTrial : MethodName := ⟨RX8, "startTrial", "()V"⟩
abbrev cX8_liveWith : ByteArray := prog_1_method_18_code
def yX8_liveWith : MethodName := ⟨RX8, "liveWith", "(II)V"⟩
abbrev cX8_best : ByteArray := prog_1_method_19_code
def yX8_best : MethodName := ⟨RX8, "best", "(I)I"⟩
abbrev cX8_good : ByteArray := prog_1_method_20_code
def yX8_good : MethodName := ⟨RX8, "good", "(II)I"⟩
abbrev cX8_wetting : ByteArray := prog_1_method_21_code
def yX8_wetting : MethodName := ⟨RX8, "wetting", "(II)I"⟩
abbrev cX8_alone : ByteArray := prog_1_method_22_code
def yX8_alone : MethodName := ⟨RX8, "alone", "()I"⟩
abbrev cX8_tooWarm : ByteArray := prog_1_method_23_code
def yX8_tooWarm : MethodName := ⟨RX8, "tooWarm", "()I"⟩
abbrev cX8_gains : ByteArray := prog_1_method_24_code
def yX8_gains : MethodName := ⟨RX8, "gains", "(I)I"⟩
abbrev cX8_buckets : ByteArray := prog_1_method_25_code
def yX8_buckets : MethodName := ⟨RX8, "buckets", "(II)I"⟩
abbrev cX8_books : ByteArray := prog_1_method_26_code
def yX8_books : MethodName := ⟨RX8, "books", "(II)I"⟩
abbrev cX8_warms : ByteArray := prog_1_method_27_code
def yX8_warms : MethodName := ⟨RX8, "warms", "(I)J"⟩
abbrev cX8_notSo : ByteArray := prog_1_method_28_code
def yX8_notSo : MethodName := ⟨RX8, "notSo", "(LBeforeItGoes$Sheet;)I"⟩
abbrev cX8_dialsOf : ByteArray := prog_1_method_29_code
def yX8_dialsOf : MethodName := ⟨RX8, "dialsOf", "(LBeforeItGoes$Sheet;I)J"⟩
abbrev cX8_textsOf : ByteArray := prog_1_method_30_code
def yX8_textsOf : MethodName := ⟨RX8, "textsOf", "(LBeforeItGoes$Sheet;)I"⟩
abbrev cX8_kindsOf : ByteArray := prog_1_method_31_code
def yX8_kindsOf : MethodName := ⟨RX8, "kindsOf", "(LBeforeItGoes$Sheet;I)I"⟩
abbrev cX8_film : ByteArray := prog_1_method_32_code
def yX8_film : MethodName := ⟨RX8, "film", "(I)I"⟩
abbrev cX8_drawn : ByteArray := prog_1_method_33_code
def yX8_drawn : MethodName := ⟨RX8, "drawn", "(I)I"⟩
abbrev cX8_chance : ByteArray := prog_1_method_34_code
def yX8_chance : MethodName := ⟨RX8, "chance", "(III)J"⟩
abbrev cX8_warmOf : ByteArray := prog_1_method_35_code
def yX8_warmOf : MethodName := ⟨RX8, "warmOf", "(I)I"⟩
abbrev cX8_commonDivisor : ByteArray := prog_1_method_36_code
def yX8_commonDivisor : MethodName := ⟨RX8, "commonDivisor", "(II)I"⟩
abbrev cX8_image : ByteArray := prog_1_method_37_code
def yX8_image : MethodName := ⟨RX8, "image", "()I"⟩
abbrev cX8_back : ByteArray := prog_1_method_38_code
def yX8_back : MethodName := ⟨RX8, "back", "()I"⟩
abbrev cX8_count : ByteArray := prog_1_method_39_code
def yX8_count : MethodName := ⟨RX8, "count", "(I)I"⟩
abbrev cX8_sheet : ByteArray := prog_1_method_40_code
def yX8_sheet : MethodName := ⟨RX8, "sheet", "(III)I"⟩
abbrev cX8_cell : ByteArray := prog_1_method_41_code
def yX8_cell : MethodName := ⟨RX8, "cell", "(III)I"⟩
abbrev cX8_copy : ByteArray := prog_1_method_42_code
def yX8_copy : MethodName := ⟨RX8, "copy", "(IIIII)I"⟩
abbrev cX8_walls : ByteArray := prog_1_method_43_code
def yX8_walls : MethodName := ⟨RX8, "walls", "(IIII)I"⟩
abbrev cX8_taken : ByteArray := prog_1_method_44_code
def yX8_taken : MethodName := ⟨RX8, "taken", "(II)I"⟩
abbrev cX8_sheetAt : ByteArray := prog_1_method_45_code
def yX8_sheetAt : MethodName := ⟨RX8, "sheetAt", "(I)LBeforeItGoes$Sheet;"⟩
def RX9 : String := "BeforeItGoesModel"
def TX9 : u_T := fun k => match k with
  | 0 => ("BeforeItGoesModel", "thrown", "I", false)
  | 1 => ("BeforeItGoesModel", "texts", "[I", true)
  | 2 => ("BeforeItGoesModel", "textSize", "[I", true)
  | 3 => ("BeforeItGoesModel", "textCount", "I", false)
  | 4 => ("BeforeItGoesModel", "rule", "I", false)
  | 5 => ("BeforeItGoesModel", "tape", "[I", true)
  | 6 => ("BeforeItGoesModel", "taped", "I", false)
  | 7 => ("BeforeItGoesModel", "plaster", "[I", true)
  | 8 => ("BeforeItGoesModel", "kinds", "[I", true)
  | 9 => ("BeforeItGoesModel", "numbers", "[I", true)
  | 10 => ("BeforeItGoesModel", "yardRow", "[I", true)
  | 11 => ("BeforeItGoesModel", "wets", "[I", true)
  | 12 => ("BeforeItGoesModel", "wallMany", "I", false)
  | 13 => ("BeforeItGoesModel", "ofWarm", "I", false)
  | 14 => ("BeforeItGoesModel", "ofAge", "I", false)
  | 15 => ("BeforeItGoesModel", "ofDirt", "I", false)
  | 16 => ("BeforeItGoesModel", "ofYards", "I", false)
  | 17 => ("BeforeItGoesModel", "ofOff", "I", false)
  | 18 => ("BeforeItGoesModel", "ofNumber", "I", false)
  | 19 => ("BeforeItGoesModel", "from", "I", false)
  | 20 => ("BeforeItGoesModel", "size", "I", false)
  | 21 => ("BeforeItGoesModel", "here", "I", false)
  | 22 => ("BeforeItGoesModel", "token", "I", false)
  | 23 => ("BeforeItGoesModel", "tokenAt", "I", false)
  | 24 => ("BeforeItGoesModel", "tokenWorth", "J", false)
  | 25 => ("BeforeItGoesModel", "open", "I", false)
  | 26 => ("BeforeItGoesModel", "bad", "Z", false)
  | 27 => ("BeforeItGoesModel", "fault", "I", false)
  | 28 => ("BeforeItGoesModel", "orderRow", "[I", true)
  | 29 => ("BeforeItGoesModel", "ordered", "I", false)
  | 30 => ("BeforeItGoesModel", "ripenRow", "[I", true)
  | 31 => ("BeforeItGoesModel", "lastRow", "[I", true)
  | 32 => ("BeforeItGoesModel", "takeRow", "[I", true)
  | 33 => ("BeforeItGoesModel", "begunAt", "[I", true)
  | 34 => ("BeforeItGoesModel", "ripeAt", "[I", true)
  | 35 => ("BeforeItGoesModel", "doneAt", "[I", true)
  | 36 => ("BeforeItGoesModel", "offBy", "[I", true)
  | 37 => ("BeforeItGoesModel", "minute", "I", false)
  | 38 => ("BeforeItGoesModel", "next", "I", false)
  | 39 => ("BeforeItGoesModel", "begunLast", "I", false)
  | 40 => ("BeforeItGoesModel", "waited", "I", false)
  | 41 => ("BeforeItGoesModel", "badness", "I", false)
  | 42 => ("BeforeItGoesModel", "bestBad", "I", false)
  | 43 => ("BeforeItGoesModel", "bestDone", "I", false)
  | 44 => ("BeforeItGoesModel", "bestDigits", "I", false)
  | 45 => ("BeforeItGoesModel", "plasterKept", "[I", true)
  | 46 => ("BeforeItGoesModel", "wallsKept", "[I", true)
  | 47 => ("BeforeItGoesModel", "manyKept", "I", false)
  | 48 => ("BeforeItGoesModel", "ruleKept", "I", false)
  | 49 => ("BeforeItGoesModel", "isThere", "[Z", true)
  | 50 => ("BeforeItGoesModel", "sorts", "[I", true)
  | 51 => ("BeforeItGoesModel", "sheetSize", "[I", true)
  | _ => ("BeforeItGoesModel", "items", "[I", true)
def tyX9 : Nat → FieldType := fun k => match k with
  | 0 => .int
  | 1 => .array .int
  | 2 => .array .int
  | 3 => .int
  | 4 => .int
  | 5 => .array .int
  | 6 => .int
  | 7 => .array .int
  | 8 => .array .int
  | 9 => .array .int
  | 10 => .array .int
  | 11 => .array .int
  | 12 => .int
  | 13 => .int
  | 14 => .int
  | 15 => .int
  | 16 => .int
  | 17 => .int
  | 18 => .int
  | 19 => .int
  | 20 => .int
  | 21 => .int
  | 22 => .int
  | 23 => .int
  | 24 => .long
  | 25 => .int
  | 26 => .boolean
  | 27 => .int
  | 28 => .array .int
  | 29 => .int
  | 30 => .array .int
  | 31 => .array .int
  | 32 => .array .int
  | 33 => .array .int
  | 34 => .array .int
  | 35 => .array .int
  | 36 => .array .int
  | 37 => .int
  | 38 => .int
  | 39 => .int
  | 40 => .int
  | 41 => .int
  | 42 => .int
  | 43 => .int
  | 44 => .int
  | 45 => .array .int
  | 46 => .array .int
  | 47 => .int
  | 48 => .int
  | 49 => .array .boolean
  | 50 => .array .int
  | 51 => .array .int
  | _ => .array .int
abbrev wsX90 : List Cond := u_ws RX9 TX9 53
theorem nmX9 : ∀ a, a < 53 → ∀ b, b < 53 → a ≠ b → (TX9 a).2.1 ≠ (TX9 b).2.1 := by decide +kernel
theorem tyX9_ok : ∀ k, k < 53 → parseFieldDescriptor (TX9 k).2.2.1 = some (tyX9 k) := by decide +kernel
abbrev cX9_in : ByteArray := prog_11_method_2_code
def yX9_in : MethodName := ⟨RX9, "in", "(JJJ)Z"⟩
abbrev cX9_within : ByteArray := prog_11_method_3_code
def yX9_within : MethodName := ⟨RX9, "within", "(III)I"⟩
abbrev cX9_bitsOf : ByteArray := prog_11_method_4_code
def yX9_bitsOf : MethodName := ⟨RX9, "bitsOf", "(I)I"⟩
abbrev cX9_init : ByteArray := prog_11_method_5_code
def yX9_init : MethodName := ⟨RX9, "<init>", "()V"⟩
abbrev cX9_spell : ByteArray := prog_11_method_6_code
def yX9_spell : MethodName := ⟨RX9, "spell", "(IIIIIIIII)V"⟩
abbrev cX9_isWall : ByteArray := prog_11_method_7_code
def yX9_isWall : MethodName := ⟨RX9, "isWall", "(I)Z"⟩
abbrev cX9_set : ByteArray := prog_11_method_8_code
def yX9_set : MethodName := ⟨RX9, "set", "(III)I"⟩
abbrev cX9_wall : ByteArray := prog_11_method_9_code
def yX9_wall : MethodName := ⟨RX9, "wall", "(III)I"⟩
abbrev cX9_told : ByteArray := prog_11_method_10_code
def yX9_told : MethodName := ⟨RX9, "told", "(II)I"⟩
abbrev cX9_feed : ByteArray := prog_11_method_11_code
def yX9_feed : MethodName := ⟨RX9, "feed", "(I)I"⟩
abbrev cX9_byteAt : ByteArray := prog_11_method_12_code
def yX9_byteAt : MethodName := ⟨RX9, "byteAt", "(I)I"⟩
abbrev cX9_next : ByteArray := prog_11_method_13_code
def yX9_next : MethodName := ⟨RX9, "next", "()V"⟩
abbrev cX9_fail : ByteArray := prog_11_method_14_code
def yX9_fail : MethodName := ⟨RX9, "fail", "()V"⟩
abbrev cX9_isLetter : ByteArray := prog_11_method_15_code
def yX9_isLetter : MethodName := ⟨RX9, "isLetter", "(II)Z"⟩
abbrev cX9_isWord : ByteArray := prog_11_method_16_code
def yX9_isWord : MethodName := ⟨RX9, "isWord", "(IIIIIIII)Z"⟩
abbrev cX9_isSign : ByteArray := prog_11_method_17_code
def yX9_isSign : MethodName := ⟨RX9, "isSign", "(I)Z"⟩
abbrev cX9_opens : ByteArray := prog_11_method_18_code
def yX9_opens : MethodName := ⟨RX9, "opens", "()Z"⟩
abbrev cX9_name : ByteArray := prog_11_method_19_code
def yX9_name : MethodName := ⟨RX9, "name", "()I"⟩
abbrev cX9_atom : ByteArray := prog_11_method_20_code
def yX9_atom : MethodName := ⟨RX9, "atom", "()I"⟩
abbrev cX9_term : ByteArray := prog_11_method_21_code
def yX9_term : MethodName := ⟨RX9, "term", "()I"⟩
abbrev cX9_added : ByteArray := prog_11_method_22_code
def yX9_added : MethodName := ⟨RX9, "added", "()I"⟩
abbrev cX9_not : ByteArray := prog_11_method_23_code
def yX9_not : MethodName := ⟨RX9, "not", "()I"⟩
abbrev cX9_both : ByteArray := prog_11_method_24_code
def yX9_both : MethodName := ⟨RX9, "both", "()I"⟩
abbrev cX9_either : ByteArray := prog_11_method_25_code
def yX9_either : MethodName := ⟨RX9, "either", "()I"⟩
abbrev cX9_part : ByteArray := prog_11_method_26_code
def yX9_part : MethodName := ⟨RX9, "part", "(Z)I"⟩
abbrev cX9_read : ByteArray := prog_11_method_27_code
def yX9_read : MethodName := ⟨RX9, "read", "(II)I"⟩
abbrev cX9_text : ByteArray := prog_11_method_28_code
def yX9_text : MethodName := ⟨RX9, "text", "()I"⟩
abbrev cX9_force : ByteArray := prog_11_method_29_code
def yX9_force : MethodName := ⟨RX9, "force", "(I)I"⟩
abbrev cX9_says : ByteArray := prog_11_method_30_code
def yX9_says : MethodName := ⟨RX9, "says", "(IIIII)I"⟩
abbrev cX9_ripensOf : ByteArray := prog_11_method_31_code
def yX9_ripensOf : MethodName := ⟨RX9, "ripensOf", "(I)I"⟩
abbrev cX9_lastsOf : ByteArray := prog_11_method_32_code
def yX9_lastsOf : MethodName := ⟨RX9, "lastsOf", "(I)I"⟩
abbrev cX9_takesOf : ByteArray := prog_11_method_33_code
def yX9_takesOf : MethodName := ⟨RX9, "takesOf", "(I)I"⟩
abbrev cX9_gathers : ByteArray := prog_11_method_34_code
def yX9_gathers : MethodName := ⟨RX9, "gathers", "()V"⟩
abbrev cX9_toTrowel : ByteArray := prog_11_method_35_code
def yX9_toTrowel : MethodName := ⟨RX9, "toTrowel", "()I"⟩
abbrev cX9_trowels : ByteArray := prog_11_method_36_code
def yX9_trowels : MethodName := ⟨RX9, "trowels", "(I)V"⟩
abbrev cX9_lives : ByteArray := prog_11_method_37_code
def yX9_lives : MethodName := ⟨RX9, "lives", "()V"⟩
abbrev cX9_begins : ByteArray := prog_11_method_38_code
def yX9_begins : MethodName := ⟨RX9, "begins", "(I)V"⟩
abbrev cX9_livesPlain : ByteArray := prog_11_method_39_code
def yX9_livesPlain : MethodName := ⟨RX9, "livesPlain", "(I)V"⟩
abbrev cX9_setOf : ByteArray := prog_11_method_40_code
def yX9_setOf : MethodName := ⟨RX9, "setOf", "(I)I"⟩
abbrev cX9_isTells : ByteArray := prog_11_method_41_code
def yX9_isTells : MethodName := ⟨RX9, "isTells", "(I)Z"⟩
abbrev cX9_tells : ByteArray := prog_11_method_42_code
def yX9_tells : MethodName := ⟨RX9, "tells", "(I)I"⟩
abbrev cX9_day : ByteArray := prog_11_method_43_code
def yX9_day : MethodName := ⟨RX9, "day", "(I)I"⟩
abbrev cX9_laysOrder : ByteArray := prog_11_method_44_code
def yX9_laysOrder : MethodName := ⟨RX9, "laysOrder", "(I)Z"⟩
abbrev cX9_order : ByteArray := prog_11_method_45_code
def yX9_order : MethodName := ⟨RX9, "order", "(II)I"⟩
abbrev cX9_triesFrom : ByteArray := prog_11_method_46_code
def yX9_triesFrom : MethodName := ⟨RX9, "triesFrom", "(II)V"⟩
abbrev cX9_best : ByteArray := prog_11_method_47_code
def yX9_best : MethodName := ⟨RX9, "best", "(I)I"⟩
abbrev cX9_good : ByteArray := prog_11_method_48_code
def yX9_good : MethodName := ⟨RX9, "good", "(II)I"⟩
abbrev cX9_wetting : ByteArray := prog_11_method_49_code
def yX9_wetting : MethodName := ⟨RX9, "wetting", "(II)I"⟩
abbrev cX9_wet : ByteArray := prog_11_method_50_code
def yX9_wet : MethodName := ⟨RX9, "wet", "(I)V"⟩
abbrev cX9_alone : ByteArray := prog_11_method_51_code
def yX9_alone : MethodName := ⟨RX9, "alone", "()I"⟩
abbrev cX9_livesBy : ByteArray := prog_11_method_52_code
def yX9_livesBy : MethodName := ⟨RX9, "livesBy", "(II)V"⟩
abbrev cX9_tooWarm : ByteArray := prog_11_method_53_code
def yX9_tooWarm : MethodName := ⟨RX9, "tooWarm", "()I"⟩
abbrev cX9_gains : ByteArray := prog_11_method_54_code
def yX9_gains : MethodName := ⟨RX9, "gains", "(I)I"⟩
abbrev cX9_buckets : ByteArray := prog_11_method_55_code
def yX9_buckets : MethodName := ⟨RX9, "buckets", "(II)I"⟩
abbrev cX9_isSo : ByteArray := prog_11_method_56_code
def yX9_isSo : MethodName := ⟨RX9, "isSo", "(I)Z"⟩
abbrev cX9_books : ByteArray := prog_11_method_57_code
def yX9_books : MethodName := ⟨RX9, "books", "(II)I"⟩
abbrev cX9_tellsSort : ByteArray := prog_11_method_58_code
def yX9_tellsSort : MethodName := ⟨RX9, "tellsSort", "(I)I"⟩
abbrev cX9_laysSort : ByteArray := prog_11_method_59_code
def yX9_laysSort : MethodName := ⟨RX9, "laysSort", "(II)V"⟩
abbrev cX9_warms : ByteArray := prog_11_method_60_code
def yX9_warms : MethodName := ⟨RX9, "warms", "(I)J"⟩
abbrev cX9_film : ByteArray := prog_11_method_61_code
def yX9_film : MethodName := ⟨RX9, "film", "(I)I"⟩
abbrev cX9_draws : ByteArray := prog_11_method_62_code
def yX9_draws : MethodName := ⟨RX9, "draws", "(I)V"⟩
abbrev cX9_drawn : ByteArray := prog_11_method_63_code
def yX9_drawn : MethodName := ⟨RX9, "drawn", "(I)I"⟩
abbrev cX9_chance : ByteArray := prog_11_method_64_code
def yX9_chance : MethodName := ⟨RX9, "chance", "(III)J"⟩
abbrev cX9_image : ByteArray := prog_11_method_65_code
def yX9_image : MethodName := ⟨RX9, "image", "()I"⟩
abbrev cX9_back : ByteArray := prog_11_method_66_code
def yX9_back : MethodName := ⟨RX9, "back", "()I"⟩
abbrev cX9_count : ByteArray := prog_11_method_67_code
def yX9_count : MethodName := ⟨RX9, "count", "(I)I"⟩
abbrev cX9_isSheet : ByteArray := prog_11_method_68_code
def yX9_isSheet : MethodName := ⟨RX9, "isSheet", "(I)Z"⟩
abbrev cX9_sheet : ByteArray := prog_11_method_69_code
def yX9_sheet : MethodName := ⟨RX9, "sheet", "(III)I"⟩
abbrev cX9_cell : ByteArray := prog_11_method_70_code
def yX9_cell : MethodName := ⟨RX9, "cell", "(III)I"⟩
abbrev cX9_copy : ByteArray := prog_11_method_71_code
def yX9_copy : MethodName := ⟨RX9, "copy", "(IIIII)I"⟩
abbrev cX9_walls : ByteArray := prog_11_method_72_code
def yX9_walls : MethodName := ⟨RX9, "walls", "(IIII)I"⟩
abbrev cX9_over : ByteArray := prog_11_method_73_code
def yX9_over : MethodName := ⟨RX9, "over", "(I)I"⟩
abbrev cX9_taken : ByteArray := prog_11_method_74_code
def yX9_taken : MethodName := ⟨RX9, "taken", "(II)I"⟩
def RJ11 : String := "java/lang/Character"
def TJ11 : u_T := fun k => match k with
  | _ => ("", "", "", false)
def tyJ11 : Nat → FieldType := fun k => match k with
  | _ => .int
abbrev wsJ110 : List Cond := u_ws RJ11 TJ11 0
theorem nmJ11 : ∀ a, a < 0 → ∀ b, b < 0 → a ≠ b → (TJ11 a).2.1 ≠ (TJ11 b).2.1 := by decide +kernel
theorem tyJ11_ok : ∀ k, k < 0 → parseFieldDescriptor (TJ11 k).2.2.1 = some (tyJ11 k) := by decide +kernel
abbrev cJ11_isValidCodePoint_9a6ad : ByteArray := prog_12_method_11_code
def yJ11_isValidCodePoint_9a6ad : MethodName := ⟨RJ11, "isValidCodePoint", "(I)Z"⟩
abbrev cJ11_highSurrogate_5068e : ByteArray := prog_12_method_28_code
def yJ11_highSurrogate_5068e : MethodName := ⟨RJ11, "highSurrogate", "(I)C"⟩
abbrev cJ11_lowSurrogate_5068e : ByteArray := prog_12_method_29_code
def yJ11_lowSurrogate_5068e : MethodName := ⟨RJ11, "lowSurrogate", "(I)C"⟩
def RJ6 : String := "java/lang/Integer"
def TJ6 : u_T := fun k => match k with
  | _ => ("", "", "", false)
def tyJ6 : Nat → FieldType := fun k => match k with
  | _ => .int
abbrev wsJ60 : List Cond := u_ws RJ6 TJ6 0
theorem nmJ6 : ∀ a, a < 0 → ∀ b, b < 0 → a ≠ b → (TJ6 a).2.1 ≠ (TJ6 b).2.1 := by decide +kernel
theorem tyJ6_ok : ∀ k, k < 0 → parseFieldDescriptor (TJ6 k).2.2.1 = some (tyJ6 k) := by decide +kernel
abbrev cJ6_bitCount_0f7a4 : ByteArray := prog_13_method_49_code
def yJ6_bitCount_0f7a4 : MethodName := ⟨RJ6, "bitCount", "(I)I"⟩
def RJ9 : String := "java/lang/Math"
def TJ9 : u_T := fun k => match k with
  | _ => ("", "", "", false)
def tyJ9 : Nat → FieldType := fun k => match k with
  | _ => .int
abbrev wsJ90 : List Cond := u_ws RJ9 TJ9 0
theorem nmJ9 : ∀ a, a < 0 → ∀ b, b < 0 → a ≠ b → (TJ9 a).2.1 ≠ (TJ9 b).2.1 := by decide +kernel
theorem tyJ9_ok : ∀ k, k < 0 → parseFieldDescriptor (TJ9 k).2.2.1 = some (tyJ9 k) := by decide +kernel
abbrev cJ9_max_7cf53 : ByteArray := prog_14_method_65_code
def yJ9_max_7cf53 : MethodName := ⟨RJ9, "max", "(II)I"⟩
abbrev cJ9_min_7cf53 : ByteArray := prog_14_method_69_code
def yJ9_min_7cf53 : MethodName := ⟨RJ9, "min", "(II)I"⟩
def RJ0 : String := "java/lang/String"
def TJ0 : u_T := fun k => match k with
  | _ => ("", "", "", false)
def tyJ0 : Nat → FieldType := fun k => match k with
  | _ => .int
abbrev wsJ00 : List Cond := u_ws RJ0 TJ0 0
theorem nmJ0 : ∀ a, a < 0 → ∀ b, b < 0 → a ≠ b → (TJ0 a).2.1 ≠ (TJ0 b).2.1 := by decide +kernel
theorem tyJ0_ok : ∀ k, k < 0 → parseFieldDescriptor (TJ0 k).2.2.1 = some (tyJ0 k) := by decide +kernel
abbrev cJ0_length_8abf5 : ByteArray := prog_15_method_54_code
def yJ0_length_8abf5 : MethodName := ⟨RJ0, "length", "()I"⟩
abbrev cJ0_charAt_5068e : ByteArray := prog_15_method_56_code
def yJ0_charAt_5068e : MethodName := ⟨RJ0, "charAt", "(I)C"⟩
abbrev cJ0_indexOf_0f7a4 : ByteArray := prog_15_method_79_code
def yJ0_indexOf_0f7a4 : MethodName := ⟨RJ0, "indexOf", "(I)I"⟩
abbrev cJ0_indexOf_7cf53 : ByteArray := prog_15_method_80_code
def yJ0_indexOf_7cf53 : MethodName := ⟨RJ0, "indexOf", "(II)I"⟩
abbrev cJ0_coder_7d493 : ByteArray := prog_15_method_152_code
def yJ0_coder_7d493 : MethodName := ⟨RJ0, "coder", "()B"⟩
abbrev cJ0_isLatin1_aae02 : ByteArray := prog_15_method_154_code
def yJ0_isLatin1_aae02 : MethodName := ⟨RJ0, "isLatin1", "()Z"⟩
abbrev cJ0_checkIndex_df160 : ByteArray := prog_15_method_155_code
def yJ0_checkIndex_df160 : MethodName := ⟨RJ0, "checkIndex", "(II)V"⟩
abbrev cJ0_checkBoundsBeginEnd_23922 : ByteArray := prog_15_method_158_code
def yJ0_checkBoundsBeginEnd_23922 : MethodName := ⟨RJ0, "checkBoundsBeginEnd", "(III)V"⟩
def RJ1 : String := "java/lang/StringLatin1"
def TJ1 : u_T := fun k => match k with
  | _ => ("", "", "", false)
def tyJ1 : Nat → FieldType := fun k => match k with
  | _ => .int
abbrev wsJ10 : List Cond := u_ws RJ1 TJ1 0
theorem nmJ1 : ∀ a, a < 0 → ∀ b, b < 0 → a ≠ b → (TJ1 a).2.1 ≠ (TJ1 b).2.1 := by decide +kernel
theorem tyJ1_ok : ∀ k, k < 0 → parseFieldDescriptor (TJ1 k).2.2.1 = some (tyJ1 k) := by decide +kernel
abbrev cJ1_charAt_3b067 : ByteArray := prog_16_method_2_code
def yJ1_charAt_3b067 : MethodName := ⟨RJ1, "charAt", "([BI)C"⟩
abbrev cJ1_canEncode_9a6ad : ByteArray := prog_16_method_4_code
def yJ1_canEncode_9a6ad : MethodName := ⟨RJ1, "canEncode", "(I)Z"⟩
abbrev cJ1_indexOf_4cfef : ByteArray := prog_16_method_22_code
def yJ1_indexOf_4cfef : MethodName := ⟨RJ1, "indexOf", "([BIII)I"⟩
abbrev cJ1_indexOfChar_4cfef : ByteArray := prog_16_method_23_code
def yJ1_indexOfChar_4cfef : MethodName := ⟨RJ1, "indexOfChar", "([BIII)I"⟩
def RJ2 : String := "java/lang/StringUTF16"
def TJ2 : u_T := fun k => match k with
  | _ => ("", "", "", false)
def tyJ2 : Nat → FieldType := fun k => match k with
  | _ => .int
abbrev wsJ20 : List Cond := u_ws RJ2 TJ2 0
theorem nmJ2 : ∀ a, a < 0 → ∀ b, b < 0 → a ≠ b → (TJ2 a).2.1 ≠ (TJ2 b).2.1 := by decide +kernel
theorem tyJ2_ok : ∀ k, k < 0 → parseFieldDescriptor (TJ2 k).2.2.1 = some (tyJ2 k) := by decide +kernel
abbrev cJ2_getChar_3b067 : ByteArray := prog_17_method_5_code
def yJ2_getChar_3b067 : MethodName := ⟨RJ2, "getChar", "([BI)C"⟩
abbrev cJ2_length_9d52b : ByteArray := prog_17_method_6_code
def yJ2_length_9d52b : MethodName := ⟨RJ2, "length", "([B)I"⟩
abbrev cJ2_indexOf_4cfef : ByteArray := prog_17_method_40_code
def yJ2_indexOf_4cfef : MethodName := ⟨RJ2, "indexOf", "([BIII)I"⟩
abbrev cJ2_indexOfChar_4cfef : ByteArray := prog_17_method_47_code
def yJ2_indexOfChar_4cfef : MethodName := ⟨RJ2, "indexOfChar", "([BIII)I"⟩
abbrev cJ2_indexOfCharUnsafe_4cfef : ByteArray := prog_17_method_48_code
def yJ2_indexOfCharUnsafe_4cfef : MethodName := ⟨RJ2, "indexOfCharUnsafe", "([BIII)I"⟩
abbrev cJ2_indexOfSupplementary_4cfef : ByteArray := prog_17_method_49_code
def yJ2_indexOfSupplementary_4cfef : MethodName := ⟨RJ2, "indexOfSupplementary", "([BIII)I"⟩
abbrev cJ2_charAt_3b067 : ByteArray := prog_17_method_83_code
def yJ2_charAt_3b067 : MethodName := ⟨RJ2, "charAt", "([BI)C"⟩
abbrev cJ2_checkIndex_2214a : ByteArray := prog_17_method_91_code
def yJ2_checkIndex_2214a : MethodName := ⟨RJ2, "checkIndex", "(I[B)V"⟩
abbrev cJ2_checkBoundsBeginEnd_d044e : ByteArray := prog_17_method_93_code
def yJ2_checkBoundsBeginEnd_d044e : MethodName := ⟨RJ2, "checkBoundsBeginEnd", "(II[B)V"⟩
def RJ10 : String := "java/lang/System"
def TJ10 : u_T := fun k => match k with
  | _ => ("", "", "", false)
def tyJ10 : Nat → FieldType := fun k => match k with
  | _ => .int
abbrev wsJ100 : List Cond := u_ws RJ10 TJ10 0
theorem nmJ10 : ∀ a, a < 0 → ∀ b, b < 0 → a ≠ b → (TJ10 a).2.1 ≠ (TJ10 b).2.1 := by decide +kernel
theorem tyJ10_ok : ∀ k, k < 0 → parseFieldDescriptor (TJ10 k).2.2.1 = some (tyJ10 k) := by decide +kernel
def RJ3 : String := "jdk/internal/util/Preconditions"
def TJ3 : u_T := fun k => match k with
  | _ => ("", "", "", false)
def tyJ3 : Nat → FieldType := fun k => match k with
  | _ => .int
abbrev wsJ30 : List Cond := u_ws RJ3 TJ3 0
theorem nmJ3 : ∀ a, a < 0 → ∀ b, b < 0 → a ≠ b → (TJ3 a).2.1 ≠ (TJ3 b).2.1 := by decide +kernel
theorem tyJ3_ok : ∀ k, k < 0 → parseFieldDescriptor (TJ3 k).2.2.1 = some (tyJ3 k) := by decide +kernel
abbrev cJ3_checkIndex_8e157 : ByteArray := prog_19_method_11_code
def yJ3_checkIndex_8e157 : MethodName := ⟨RJ3, "checkIndex", "(IILjava/util/function/BiFunction;)I"⟩
abbrev cJ3_checkFromToIndex_8c36e : ByteArray := prog_19_method_12_code
def yJ3_checkFromToIndex_8c36e : MethodName := ⟨RJ3, "checkFromToIndex", "(IIILjava/util/function/BiFunction;)I"⟩
def RL : String := "BeforeItGoesLaw"
abbrev cL_law : ByteArray := code
def yL_law : MethodName := ⟨RL, "law", "([I)Z"⟩
abbrev vwCl : List vw_C := [(RX0, TX0, 17), (RX2, TX2, 4), (RX3, TX3, 5), (RX4, TX4, 3), (RX5, TX5, 7), (RX6, TX6, 6), (RX7, TX7, 3), (RX8, TX8, 10), (RX9, TX9, 53)]
end
section
/-! ===== the frame: one memory of whole numbers, a fixed layout of cells, contracts over it ===== -/
def gt : List Cond := lw_tbl.filter goodWord
theorem gt_of {w : Cond} (i : Nat) (h : lw_tbl[i]? = some w) (g : goodWord w = true) : w ∈ gt := List.mem_filter.mpr ⟨List.mem_of_getElem? h, g⟩
theorem gt_good {ws : List Cond} (h : ∀ w ∈ ws, w ∈ gt) : GoodIn gt ws := fun w hw => ⟨h w hw, good_of_word (List.mem_filter.mp (h w hw)).2⟩
def isNest : Cond → Bool
  | .fieldLinkNest .. => true
  | .methodLinkNest .. => true
  | _ => false
def nw : List Cond := lw_tbl.filter isNest
theorem nw_of {w : Cond} (i : Nat) (h : lw_tbl[i]? = some w) (g : isNest w = true) : w ∈ nw := List.mem_filter.mpr ⟨List.mem_of_getElem? h, g⟩
theorem nw_tab {w : Cond} (h : isNest w = true) : w.onTables = true := by
  cases w <;> first | rfl | (exact absurd h (by decide)) | (simp [isNest] at h)
theorem nw_warm {w : Cond} (h : isNest w = true) {s U : State} (hW : s.WarmedH U.vm) (hZ : va_Nw w s) : va_Nw w U := by
  cases w <;> first | exact va_Nw.warmF hW hZ | exact va_Nw.warmM hW hZ | (simp [isNest] at h)
abbrev Mem : Type := Nat → Nat → Int32
def wr (M : Mem) (c k : Nat) (x : Int32) : Mem := fun a => if a = c then upd (M c) k x else M a
def wrA (M : Mem) (c : Nat) (f : Nat → Int32) : Mem := fun a => if a = c then f else M a
theorem wr_same (M : Mem) (c k : Nat) (x : Int32) : wr M c k x c k = x := by simp [wr, upd]
theorem wr_cell (M : Mem) (c k j : Nat) (x : Int32) (h : j ≠ k) : wr M c k x c j = M c j := by simp [wr, upd, h]
theorem wr_ne (M : Mem) (c k a : Nat) (x : Int32) (h : a ≠ c) : wr M c k x a = M a := by simp [wr, h]
theorem wrA_same (M : Mem) (c : Nat) (f : Nat → Int32) : wrA M c f c = f := by simp [wrA]
theorem wrA_ne (M : Mem) (c a : Nat) (f : Nat → Int32) (h : a ≠ c) : wrA M c f a = M a := by simp [wrA, h]
abbrev LD : Type := (Nat × List Nat) ⊕ (Nat × Nat × (Nat → Nat))
def fv (ad : Nat → Nat) (f : Nat → Int32) (k c : Nat) : Value := match c with
  | 0 => .int (f k)
  | 1 => .long (f k).toInt64
  | j + 2 => .ref (ad j)
def flds (ad : Nat → Nat) (f : Nat → Int32) (sp : List Nat) : List Value := sp.mapIdx (fun k c => fv ad f k c)
def arrR (ad : Nat → Nat) (f : Nat → Int32) (ty : Nat) (ch : Nat → Nat) : (Nat → Int32) ⊕ (Nat → Int64) ⊕ (Nat → UInt32) ⊕ (Nat → UInt64) ⊕ (Nat → Option Nat) := match ty with
  | 0 => .inl f
  | 1 => .inl f
  | _ => .inr (.inr (.inr (.inr fun j => some (ad (ch j)))))
/-- the launch, the classes, the arrays' classes, the addresses of the cells, what may be changed -/
abbrev XT : Type := Launch × va_G × (Nat → ClassId) × (Nat → Nat) × (Nat → Prop)
def ent (cy : Nat → ClassId) (ad : Nat → Nat) (f : Nat → Int32) : LD → va_E
  | .inl (ci, sp) => .inr (ci, flds ad f sp)
  | .inr (ty, len, ch) => .inl (cy ty, len, arrR ad f ty ch)
def wsO (L : List LD) (X : XT) (M : Mem) : va_W := L.mapIdx fun c d => (X.2.2.2.1 c, ent X.2.2.1 X.2.2.2.1 (M c) d)
def tysO (cy : Nat → ClassId) : List (ClassId × FieldType) := [(cy 0, .int), (cy 1, .boolean), (cy 2, .object "BeforeItGoes$Text"), (cy 3, .object "BeforeItGoes$Sheet")]
theorem wsO_at {L : List LD} {X : XT} {M : Mem} {c : Nat} {d : LD} (h : L[c]? = some d) : (wsO L X M)[c]? = some (X.2.2.2.1 c, ent X.2.2.1 X.2.2.2.1 (M c) d) := by
  simp [wsO, List.getElem?_mapIdx, h]
theorem flds_at {ad : Nat → Nat} {f : Nat → Int32} {sp : List Nat} {k c : Nat} (h : sp[k]? = some c) : (flds ad f sp)[k]? = some (fv ad f k c) := by
  simp [flds, List.getElem?_mapIdx, h]
theorem flds_len {ad : Nat → Nat} {f : Nat → Int32} {sp : List Nat} {k c : Nat} (h : sp[k]? = some c) : k < (flds ad f sp).length := by
  have := (List.getElem?_eq_some_iff.mp h).1
  simpa [flds] using this
theorem flds_set {ad : Nat → Nat} {f : Nat → Int32} {sp : List Nat} {k c : Nat} {x : Int32} {v : Value} (h : sp[k]? = some c) (hv : fv ad (upd f k x) k c = v) (hc : c < 2) : (flds ad f sp).set k v = flds ad (upd f k x) sp := by
  apply List.ext_getElem?
  intro i
  by_cases hi : i = k
  · subst hi
    rw [List.getElem?_set_self (flds_len h), flds_at h, hv]
  · rw [List.getElem?_set_ne (fun e => hi e.symm)]
    simp only [flds, List.getElem?_mapIdx]
    cases hs : sp[i]? with
    | none => rfl
    | some d =>
      simp only [Option.map_some]
      congr 1
      unfold fv
      split <;> simp [upd, hi]
theorem wsO_set {L : List LD} {X : XT} {M M' : Mem} {c : Nat} {d : LD} {e : va_E} (h : L[c]? = some d) (he : ent X.2.2.1 X.2.2.2.1 (M' c) d = e) (hM : ∀ a, a ≠ c → M' a = M a) : (wsO L X M).set c (X.2.2.2.1 c, e) = wsO L X M' := by
  apply List.ext_getElem?
  intro i
  by_cases hi : i = c
  · subst hi
    rw [List.getElem?_set_self (by have := (List.getElem?_eq_some_iff.mp h).1; simpa [wsO] using this), wsO_at h, he]
  · rw [List.getElem?_set_ne (fun e => hi e.symm)]
    simp only [wsO, List.getElem?_mapIdx]
    cases hs : L[i]? with
    | none => rfl
    | some d =>
      simp only [Option.map_some]
      rw [hM i hi]
theorem wsO_put {L : List LD} {X : XT} {M : Mem} {c ci k cd : Nat} {sp : List Nat} {x : Int32} {v : Value} (h : L[c]? = some (.inl (ci, sp))) (hk : sp[k]? = some cd) (hv : fv X.2.2.2.1 (upd (M c) k x) k cd = v) (hc : cd < 2) : (wsO L X M).set c (X.2.2.2.1 c, .inr (ci, (flds X.2.2.2.1 (M c) sp).set k v)) = wsO L X (wr M c k x) := by
  refine wsO_set h ?_ (fun a ha => wr_ne M c k a x ha)
  show Sum.inr (ci, flds X.2.2.2.1 (wr M c k x c) sp) = _
  rw [flds_set hk hv hc]
  congr 3
  simp [wr]
theorem wsO_st {L : List LD} {X : XT} {M : Mem} {c ty n k : Nat} {ch : Nat → Nat} {x : Int32} (h : L[c]? = some (.inr (ty, n, ch))) (ht : ty < 2) : (wsO L X M).set c (X.2.2.2.1 c, .inl (X.2.2.1 ty, n, .inl (upd (M c) k x))) = wsO L X (wr M c k x) := by
  refine wsO_set h ?_ (fun a ha => wr_ne M c k a x ha)
  have e : wr M c k x c = upd (M c) k x := by simp [wr]
  rw [e]
  match ty, ht with
  | 0, _ => rfl
  | 1, _ => rfl
theorem wsO_stA {L : List LD} {X : XT} {M : Mem} {c ty n : Nat} {ch : Nat → Nat} {f : Nat → Int32} (h : L[c]? = some (.inr (ty, n, ch))) (ht : ty < 2) : (wsO L X M).set c (X.2.2.2.1 c, .inl (X.2.2.1 ty, n, .inl f)) = wsO L X (wrA M c f) := by
  refine wsO_set h ?_ (fun a ha => wrA_ne M c a f ha)
  rw [wrA_same]
  match ty, ht with
  | 0, _ => rfl
  | 1, _ => rfl
def AD (L : List LD) (X : XT) : Prop := (∀ i j : Nat, i < L.length → j < L.length → X.2.2.2.1 i = X.2.2.2.1 j → i = j) ∧ ∀ i : Nat, i < L.length → X.2.2.2.2 (X.2.2.2.1 i)
theorem wsO_ad {L : List LD} {X : XT} {M : Mem} {k : Nat} {q : Nat × va_E} (h : (wsO L X M)[k]? = some q) : k < L.length ∧ q.1 = X.2.2.2.1 k := by
  simp only [wsO, List.getElem?_mapIdx] at h
  cases hs : L[k]? with
  | none => rw [hs] at h; cases h
  | some d =>
    rw [hs] at h
    cases h
    exact ⟨(List.getElem?_eq_some_iff.mp hs).1, rfl⟩
theorem AD.D {L : List LD} {X : XT} (h : AD L X) (M : Mem) : va_D X.2.2.2.2 (wsO L X M) := by
  refine ⟨fun i j p q hp hq e => ?_, fun k q hq => ?_⟩
  · obtain ⟨h1, h2⟩ := wsO_ad hp
    obtain ⟨h3, h4⟩ := wsO_ad hq
    exact h.1 i j h1 h3 (by rw [← h2, ← h4, e])
  · obtain ⟨h1, h2⟩ := wsO_ad hq
    rw [h2]
    exact h.2 k h1
/-- the statics that the class reads: four tables, the literals -/
def tnm (j : Nat) : String := match j with
  | 0 => "LEAST"
  | 1 => "MOST"
  | 2 => "PART_LEAST"
  | _ => "PART_MOST"
def tab (j : Nat) : List Int32 := match j with
  | 0 => [0, 0, 0, 1, 0, 0, 0, 1, 0]
  | 1 => [40, 9, 9, 2, 60, 20, 9, 20, 1]
  | 2 => [1, 1, 0]
  | _ => [240, 20, 999]
def tb (j : Nat) (i : Nat) : Int32 := (tab j).getD i 0
def nS : Nat := 14
def lenS : List Nat := [76, 8, 4, 3, 4, 5, 3, 6, 6, 5, 6, 2, 3, 3]
def bytS : List (List Int32) := [[114, 105, 112, 101, 110, 115, 32, 54, 48, 32, 45, 32, 119, 97, 114, 109, 32, 45, 32, 100, 105, 114, 116, 32, 42, 32, 52, 32, 45, 32, 97, 103, 101, 32, 42, 32, 50, 32, 59, 32, 116, 97, 107, 101, 115, 32, 50, 32, 59, 32, 115, 112, 111, 105, 108, 115, 32, 111, 102, 102, 32, 42, 32, 111, 102, 102, 32, 42, 32, 121, 97, 114, 100, 115, 32, 59], [40, 41, 59, 43, 45, 42, 60, 61], [119, 97, 114, 109], [97, 103, 101], [100, 105, 114, 116], [121, 97, 114, 100, 115], [111, 102, 102], [110, 117, 109, 98, 101, 114], [114, 105, 112, 101, 110, 115], [116, 97, 107, 101, 115], [115, 112, 111, 105, 108, 115], [111, 114], [97, 110, 100], [110, 111, 116]]
def whS : List (String × Nat × String) := [("BeforeItGoes", 73, "ripens 60 - warm - dirt * 4 - age * 2 ; takes 2 ; spoils off * off * yards ;"), ("BeforeItGoes$Tape", 49, "();+-*<="), ("BeforeItGoes$Tape", 72, "warm"), ("BeforeItGoes$Tape", 74, "age"), ("BeforeItGoes$Tape", 76, "dirt"), ("BeforeItGoes$Tape", 78, "yards"), ("BeforeItGoes$Tape", 80, "off"), ("BeforeItGoes$Tape", 82, "number"), ("BeforeItGoes$Tape", 84, "ripens"), ("BeforeItGoes$Tape", 86, "takes"), ("BeforeItGoes$Tape", 88, "spoils"), ("BeforeItGoes$Tape", 90, "or"), ("BeforeItGoes$Tape", 92, "and"), ("BeforeItGoes$Tape", 94, "not")]
def St (X : XT) (U : State) (H : Heap) : Prop :=
  (∀ j : Nat, j < 4 → va_Z "BeforeItGoes" (tnm j) "[I" (.ref (X.2.2.2.1 (1000 + j))) X.2.2.2.2 U H ∧ va_T .int (X.2.2.2.1 (1000 + j)) (tab j).length (fun i => .int (tb j i)) X.2.2.2.2 U H) ∧
  vk_S nS lenS bytS (fun i => X.2.2.2.1 (2000 + i)) (fun i => X.2.2.2.1 (3000 + i)) X.2.2.2.2 U H ∧
  (∀ (i : Nat) (q : String × Nat × String), whS[i]? = some q → vk_R q.1 q.2.1 q.2.2 (X.2.2.2.1 (2000 + i)) U) ∧
  va_Z "java/lang/String" "COMPACT_STRINGS" "Z" (.int 1) X.2.2.2.2 U H ∧ (∀ w ∈ nw, va_Nw w U) ∧ va_Zq "jdk/internal/util/Preconditions" "SIOOBE_FORMATTER" "Ljava/util/function/BiFunction;" X.2.2.2.2 U H
theorem St.kept {X : XT} {U : State} {H H1 : Heap} (h : St X U H) (hq : ∀ a : Nat, a < H.size → ¬ X.2.2.2.2 a → H1[a]? = H[a]?) : St X U H1 :=
  ⟨fun j hj => ⟨(h.1 j hj).1.kept hq, (h.1 j hj).2.kept hq⟩, h.2.1.kept hq, h.2.2.1, h.2.2.2.1.kept hq, h.2.2.2.2.1, h.2.2.2.2.2.kept hq⟩
theorem St.warm {X : XT} {s U : State} {H : Heap} (hW : s.WarmedH U.vm) (h : St X s H) : St X U H :=
  ⟨fun j hj => ⟨(h.1 j hj).1.moved hW.alike, (h.1 j hj).2.moved hW.alike⟩, h.2.1.moved hW.alike, fun i q hq => vk_R.warm hW (h.2.2.1 i q hq), h.2.2.2.1.moved hW.alike, fun w hw => nw_warm (List.mem_filter.mp hw).2 hW (h.2.2.2.2.1 w hw), h.2.2.2.2.2.moved hW.alike⟩
theorem St.same {X : XT} {u U : State} {H : Heap} (hv : U.vm = u.vm) (h : St X u H) : St X U H :=
  ⟨fun j hj => ⟨(h.1 j hj).1.moved (by rw [hv]; exact Vm.Alike.refl _), (h.1 j hj).2.moved (by rw [hv]; exact Vm.Alike.refl _)⟩, h.2.1.moved (by rw [hv]; exact Vm.Alike.refl _), fun i q hq => vk_R.same hv (h.2.2.1 i q hq), h.2.2.2.1.moved (by rw [hv]; exact Vm.Alike.refl _), fun w hw => va_Nw.same (nw_tab (List.mem_filter.mp hw).2) hv.symm (h.2.2.2.2.1 w hw), h.2.2.2.2.2.moved (by rw [hv]; exact Vm.Alike.refl _)⟩
abbrev rm (d : Nat) : Room := { frames := d, cells := 0, slots := 0, locals := 40 * d }
def Pre (L : List LD) (X : XT) (M : Mem) : State → Prop := fun U => va_P X.2.1 vwCl (wsO L X M) U.heap ∧ va_K X.2.1 vwCl (tysO X.2.2.1) U ∧ St X U U.heap ∧ AD L X
def Qo (L : List LD) (X : XT) (v : Option Value) (M : Mem) : Array Value → State → Outcome → State → Prop := fun _ st o t => o = .returned v ∧ va_P X.2.1 vwCl (wsO L X M) t.heap ∧ va_F X.2.2.2.2 st t
/-- a method's contract: from the memory M it comes to the memory M', and answers v -/
def CT (L : List LD) (X : XT) (d : Nat) (y : MethodName) (b : ByteArray) (nL : Nat) (ret : Option FieldType) (args : List Value) (M M' : Mem) (v : Option Value) : Prop :=
  Met X.1 y (.code y b nL ret :: gt) (rm d) (va_Pc args (Pre L X M)) (Qo L X v M') 0 0 X.2.2.2.2
/-- the machine in a method: program, environment, state at its start, method, arguments, what is below, its code, the room, cells and slots that are made -/
abbrev MT : Type := Program × Env × State × MethodId × Array Value × List Frame × Method × Code × Room × Nat × Nat
def Kx (L : List LD) (X : XT) (Γ : MT) (own : String) (b : ByteArray) (nL d : Nat) (ret : Option FieldType) : Prop :=
  Γ.1.tables.exec = Jvm.exec ∧ Γ.2.2.2.2.2.2.2.1.code = b ∧ Γ.2.2.2.2.2.2.1.sig.returnType = ret ∧ (∀ w ∈ gt, w.before Γ.2.2.2.2.1 Γ.2.2.1 = true) ∧ Γ.2.2.1.vm.findClass own = some Γ.2.2.2.1.cls ∧ Γ.2.2.2.2.2.2.1.locks = false ∧ Γ.2.2.2.2.2.2.2.1.maxLocals = nL ∧
  va_K X.2.1 vwCl (tysO X.2.2.1) Γ.2.2.1 ∧ St X Γ.2.2.1 Γ.2.2.1.heap ∧ AD L X ∧ d ≤ Γ.2.2.2.2.2.2.2.2.1.frames ∧ 40 * d ≤ Γ.2.2.2.2.2.2.2.2.1.locals ∧ Γ.2.2.2.2.2.2.2.2.2.1 ≤ Γ.2.2.2.2.2.2.2.2.1.cells ∧ Γ.2.2.2.2.2.2.2.2.2.2 ≤ Γ.2.2.2.2.2.2.2.2.1.slots
def G (L : List LD) (X : XT) (Γ : MT) (nL : Nat) (Q : State → Prop) (pc : Nat) (lv : List (Nat × Value)) (st : List Value) (M : Mem) : Prop :=
  ∀ (H : Heap) (locs : List Loc) (ls : Array Slot), lv_has ls nL lv → va_P X.2.1 vwCl (wsO L X M) H → va_S X.2.2.2.2 Γ.2.2.1.heap H locs → W Γ.1 X.1 Γ.2.1 Γ.2.2.2.2.2.2.2.2.1 Γ.2.2.1 Γ.2.2.2.1 Γ.2.2.2.2.1 Γ.2.2.2.2.2.1 Γ.2.2.2.2.2.2.1 Γ.2.2.2.2.2.2.2.1 H locs Γ.2.2.2.2.2.2.2.2.2.1 Γ.2.2.2.2.2.2.2.2.2.2 Q (F0 Γ.2.2.2.1 pc ls st)
def QM (L : List LD) (X : XT) (Γ : MT) (v : Option Value) (M : Mem) : State → Prop := MQ Γ.2.2.2.2.2.1 (Qo L X v M) Γ.2.2.2.2.1 Γ.2.2.1 Γ.2.2.2.2.2.2.2.2.2.1 Γ.2.2.2.2.2.2.2.2.2.2 X.2.2.2.2
set_option maxHeartbeats 1000000 in
theorem CT.of {L : List LD} {X : XT} {d : Nat} {y : MethodName} {b : ByteArray} {nL : Nat} {ret : Option FieldType} {args : List Value} {M M' : Mem} {v : Option Value} {lv : List (Nat × Value)} (hy : plainName y.cls = true) (hn : (lg_sl args).length ≤ nL) (hlv : lv_args 0 args = lv)
    (k : ∀ Γ : MT, Kx L X Γ y.cls b nL d ret → G L X Γ nL (QM L X Γ v M') 0 lv [] M) : CT L X d y b nL ret args M M' v := by
  refine Met.ofW (cc := b) (maxL := nL) (ret := ret) hy rfl ?_
  intro p e s m as below meth c s₁ B hml hv
  obtain ⟨rfl, hP, hK, hS, hA⟩ := hv
  have hts : ∀ w ∈ gt, w.before args.toArray s = true := fun w hw => atoms_spec (ws := .code y b nL ret :: gt) B.pre w (List.mem_cons_of_mem _ hw)
  have hl := lv_entry args (n := nL) hn
  rw [lg_entry_eq]
  rw [hlv] at hl
  exact k (p, e, s, m, args.toArray, below, meth, c, rm d, 0, 0) ⟨B.exec, B.bytes, B.returns, hts, findClass_of_methodNamed B.named, B.notSynchronized, hml, hK, hS, hA, Nat.le_refl _, Nat.le_refl _, Nat.le_refl _, Nat.le_refl _⟩ s.heap [] _ hl hP va_S.rf
end
section
/-! ===== rows over G: an instruction, a row; h carries what is still to be done ===== -/
def bnd {α β : Type} (x : α) (f : α → β) : β := f x
def ck {β : Type} (i : Int32) (n : Nat) (x : Option β) : Option β := if i < 0 ∨ n ≤ i.toNatClampNeg then none else x
def nz {β : Type} (y : Int32) (x : Option β) : Option β := if y = 0 then none else x
def nzL {β : Type} (y : Int64) (x : Option β) : Option β := if y = 0 then none else x
def rq {β : Type} (c : Prop) [Decidable c] (x : Option β) : Option β := if c then x else none
def ob {α β : Type} (x : Option α) (k : α → Option β) : Option β := match x with
  | none => none
  | some a => k a
def ob2 {α γ β : Type} (x : Option (α × γ)) (k : α → γ → Option β) : Option β := match x with
  | none => none
  | some (a, c) => k a c
def jp {α β : Type} (k : α) (f : α → β) : β := f k
def b2i (b : Bool) : Int32 := if b = true then 1 else 0
def imax (x y : Int32) : Int32 := if x < y then y else x
def imin (x y : Int32) : Int32 := if y < x then y else x
theorem ck_e {β : Type} {i : Int32} {n : Nat} {x : Option β} {r : β} (h : ck i n x = some r) : vp_in i n ∧ x = some r := by
  unfold ck at h
  split at h
  · cases h
  · exact ⟨by assumption, h⟩
theorem nz_e {β : Type} {y : Int32} {x : Option β} {r : β} (h : nz y x = some r) : ¬ y = 0 ∧ x = some r := by
  unfold nz at h
  split at h
  · cases h
  · exact ⟨by assumption, h⟩
theorem nzL_e {β : Type} {y : Int64} {x : Option β} {r : β} (h : nzL y x = some r) : ¬ y = 0 ∧ x = some r := by
  unfold nzL at h
  split at h
  · cases h
  · exact ⟨by assumption, h⟩
theorem rq_e {β : Type} {c : Prop} [Decidable c] {x : Option β} {r : β} (h : rq c x = some r) : c ∧ x = some r := by
  unfold rq at h
  split at h
  · exact ⟨by assumption, h⟩
  · cases h
theorem bnd_e {α β : Type} {e : α} {f : α → Option β} {r : β} (h : bnd e f = some r) : ∃ v, e = v ∧ f v = some r := ⟨e, rfl, h⟩
def FU : Nat := 100000
theorem ob_e {α β : Type} {x : Option α} {k : α → Option β} {r : β} (h : ob x k = some r) : ∃ a, x = some a ∧ k a = some r := by
  cases x with
  | none => cases h
  | some a => exact ⟨a, rfl, h⟩
theorem ob2_e {α γ β : Type} {x : Option (α × γ)} {k : α → γ → Option β} {r : β} (h : ob2 x k = some r) : ∃ a c, x = some (a, c) ∧ k a c = some r := by
  cases x with
  | none => cases h
  | some q => exact ⟨q.1, q.2, rfl, h⟩
theorem ite_e {β : Type} {c : Prop} [Decidable c] {a b : Option β} {r : β} (h : (if c then a else b) = some r) : (c → a = some r) ∧ (¬ c → b = some r) :=
  ⟨fun z => by rw [if_pos z] at h; exact h, fun z => by rw [if_neg z] at h; exact h⟩
def st1 (i : Nat) (v : Value) (lv : List (Nat × Value)) : List (Nat × Value) := (i, v) :: lv.filter (fun q => !(q.1 == i) && !(q.1 + 1 == i && q.2.category == 2))
def st2 (i : Nat) (v : Value) (lv : List (Nat × Value)) : List (Nat × Value) := (i, v) :: lv.filter (fun q => !(q.1 == i) && (!(q.1 == i + 1) && !(q.1 + 1 == i && q.2.category == 2)))
/-- a field of an object of class number ci: the link of index idx in class own is its k-th -/
def FL (own : String) (idx ci k : Nat) : Prop := ∃ (C : String) (T : u_T) (N : Nat), vwCl[ci]? = some (C, T, N) ∧ k < N ∧ (∀ w ∈ u_ws C T N, w ∈ gt) ∧ (Cond.fieldLink own idx (T k).1 (T k).2.1 (T k).2.2.1 ∈ gt ∨ ∃ host : String, Cond.fieldLinkNest own idx (T k).1 (T k).2.1 (T k).2.2.1 host ∈ nw)
/-- .. and it may be written, being of type ty -/
def FP (own : String) (idx ci k : Nat) (ty : FieldType) : Prop := ∃ (C : String) (T : u_T) (N : Nat) (ty0 : Nat → FieldType), vwCl[ci]? = some (C, T, N) ∧ k < N ∧ (∀ w ∈ u_ws C T N, w ∈ gt) ∧ (Cond.fieldLink own idx (T k).1 (T k).2.1 (T k).2.2.1 ∈ gt ∨ ∃ host : String, Cond.fieldLinkNest own idx (T k).1 (T k).2.1 (T k).2.2.1 host ∈ nw) ∧ (∀ j, j < N → parseFieldDescriptor (T j).2.2.1 = some (ty0 j)) ∧ (∀ a, a < N → ∀ b, b < N → a ≠ b → (T a).2.1 ≠ (T b).2.1) ∧ (T k).2.2.2 = false ∧ parseFieldDescriptor (T k).2.2.1 = some ty
/-- a call of a method of an object -/
def MV (own : String) (idx : Nat) (y : MethodName) (b : ByteArray) (nL : Nat) (ret : Option FieldType) (n : Nat) : Prop :=
  (Cond.methodLink own idx y ∈ gt ∨ ∃ host : String, Cond.methodLinkNest own idx y host ∈ nw) ∧ Cond.instanceMethod y ∈ gt ∧ Cond.selects y.cls y y ∈ gt ∧ Cond.initialized y.cls ∈ gt ∧ Cond.code y b nL ret ∈ gt ∧ (y.cls ≠ "java/lang/invoke/MethodHandle" ∧ y.cls ≠ "java/lang/invoke/VarHandle" ∧ (parseMethodDescriptor y.desc).map (fun d => d.parameters.length) = some n) ∧ nL ≤ 20
/-- a call of a static method -/
def MS (own : String) (idx : Nat) (y : MethodName) (b : ByteArray) (nL : Nat) (ret : Option FieldType) (n : Nat) : Prop :=
  (Cond.methodLink own idx y ∈ gt ∨ ∃ host : String, Cond.methodLinkNest own idx y host ∈ nw) ∧ Cond.static y ∈ gt ∧ Cond.initialized y.cls ∈ gt ∧ Cond.code y b nL ret ∈ gt ∧ (y.cls ≠ "java/lang/invoke/MethodHandle" ∧ y.cls ≠ "java/lang/invoke/VarHandle" ∧ (parseMethodDescriptor y.desc).map (fun d => d.parameters.length) = some n) ∧ nL ≤ 20
section ROWS
variable {L : List LD} {X : XT} {Γ : MT} {own : String} {b : ByteArray} {nL d : Nat} {ret : Option FieldType} {Q : State → Prop} {pc : Nat} {lv : List (Nat × Value)} {st : List Value} {M : Mem}
theorem Kx.ex (K : Kx L X Γ own b nL d ret) : Γ.1.tables.exec = Jvm.exec := K.1
theorem Kx.cd (K : Kx L X Γ own b nL d ret) : Γ.2.2.2.2.2.2.2.1.code = b := K.2.1
theorem Kx.rt (K : Kx L X Γ own b nL d ret) : Γ.2.2.2.2.2.2.1.sig.returnType = ret := K.2.2.1
theorem Kx.ts (K : Kx L X Γ own b nL d ret) : ∀ w ∈ gt, w.before Γ.2.2.2.2.1 Γ.2.2.1 = true := K.2.2.2.1
theorem Kx.ow (K : Kx L X Γ own b nL d ret) : Γ.2.2.1.vm.findClass own = some Γ.2.2.2.1.cls := K.2.2.2.2.1
theorem Kx.lk (K : Kx L X Γ own b nL d ret) : Γ.2.2.2.2.2.2.1.locks = false := K.2.2.2.2.2.1
theorem Kx.ml (K : Kx L X Γ own b nL d ret) : Γ.2.2.2.2.2.2.2.1.maxLocals = nL := K.2.2.2.2.2.2.1
theorem Kx.kk (K : Kx L X Γ own b nL d ret) : va_K X.2.1 vwCl (tysO X.2.2.1) Γ.2.2.1 := K.2.2.2.2.2.2.2.1
theorem Kx.sta (K : Kx L X Γ own b nL d ret) : St X Γ.2.2.1 Γ.2.2.1.heap := K.2.2.2.2.2.2.2.2.1
theorem Kx.nw (K : Kx L X Γ own b nL d ret) : ∀ w ∈ nw, w.before Γ.2.2.2.2.1 Γ.2.2.1 = true := fun w hw => va_Nw.use (nw_tab (List.mem_filter.mp hw).2) (K.sta.2.2.2.2.1 w hw)
theorem Kx.ad (K : Kx L X Γ own b nL d ret) : AD L X := K.2.2.2.2.2.2.2.2.2.1
theorem Kx.fr (K : Kx L X Γ own b nL d ret) : d ≤ Γ.2.2.2.2.2.2.2.2.1.frames := K.2.2.2.2.2.2.2.2.2.2.1
theorem Kx.lo (K : Kx L X Γ own b nL d ret) : 40 * d ≤ Γ.2.2.2.2.2.2.2.2.1.locals := K.2.2.2.2.2.2.2.2.2.2.2.1
theorem Kx.ce (K : Kx L X Γ own b nL d ret) : Γ.2.2.2.2.2.2.2.2.2.1 ≤ Γ.2.2.2.2.2.2.2.2.1.cells := K.2.2.2.2.2.2.2.2.2.2.2.2.1
theorem Kx.sl (K : Kx L X Γ own b nL d ret) : Γ.2.2.2.2.2.2.2.2.2.2 ≤ Γ.2.2.2.2.2.2.2.2.1.slots := K.2.2.2.2.2.2.2.2.2.2.2.2.2
theorem g_iconst (K : Kx L X Γ own b nL d ret) {pn : Nat} (hp : pc + 1 = pn) {n : Int} {v : Int32} (hv : Int32.ofInt n = v) (hd : decode b pc = .ok (.iconst n, 1)) (k : G L X Γ nL Q pn lv (.int v :: st) M) : G L X Γ nL Q pc lv st M := by
  subst hp
  exact fun H locs ls hl hP hS => lv_iconst K.ex K.cd hd hv (k H locs ls hl hP hS)
theorem g_bipush (K : Kx L X Γ own b nL d ret) {pn : Nat} (hp : pc + 2 = pn) {n : Int} {v : Int32} (hv : (Int8.ofInt n).toInt32 = v) (hd : decode b pc = .ok (.bipush n, 2)) (k : G L X Γ nL Q pn lv (.int v :: st) M) : G L X Γ nL Q pc lv st M := by
  subst hp
  exact fun H locs ls hl hP hS => lv_bipush K.ex K.cd hd hv (k H locs ls hl hP hS)
theorem g_sipush (K : Kx L X Γ own b nL d ret) {pn : Nat} (hp : pc + 3 = pn) {n : Int} {v : Int32} (hv : (Int16.ofInt n).toInt32 = v) (hd : decode b pc = .ok (.sipush n, 3)) (k : G L X Γ nL Q pn lv (.int v :: st) M) : G L X Γ nL Q pc lv st M := by
  subst hp
  exact fun H locs ls hl hP hS => lv_sipush K.ex K.cd hd hv (k H locs ls hl hP hS)
theorem g_lconst (K : Kx L X Γ own b nL d ret) {pn : Nat} (hp : pc + 1 = pn) {n : Fin 2} {v : Int64} (hv : Int64.ofNat (n : Nat) = v) (hd : decode b pc = .ok (.lconst n, 1)) (k : G L X Γ nL Q pn lv (.long v :: st) M) : G L X Γ nL Q pc lv st M := by
  subst hp
  exact fun H locs ls hl hP hS => lv_lconst K.ex K.cd hd hv (k H locs ls hl hP hS)
theorem g_ldc (K : Kx L X Γ own b nL d ret) {pn : Nat} (hp : pc + 2 = pn) {idx : Nat} {v : Int32} (hw : Cond.constant own idx v ∈ gt) (hd : decode b pc = .ok (.ldc idx, 2)) (k : G L X Γ nL Q pn lv (.int v :: st) M) : G L X Γ nL Q pc lv st M := by
  subst hp
  exact fun H locs ls hl hP hS => lv_ldc K.ex K.cd K.ow (K.ts _ hw) hd (k H locs ls hl hP hS)
theorem g_ldcw (K : Kx L X Γ own b nL d ret) {pn : Nat} (hp : pc + 3 = pn) {idx : Nat} {v : Int32} (hw : Cond.constant own idx v ∈ gt) (hd : decode b pc = .ok (.ldc_w idx, 3)) (k : G L X Γ nL Q pn lv (.int v :: st) M) : G L X Γ nL Q pc lv st M := by
  subst hp
  exact fun H locs ls hl hP hS => lv_ldcw K.ex K.cd K.ow (K.ts _ hw) hd (k H locs ls hl hP hS)
theorem g_ldc2 (K : Kx L X Γ own b nL d ret) {pn : Nat} (hp : pc + 3 = pn) {idx : Nat} {v : Int64} (hw : Cond.constantLong own idx v ∈ gt) (hd : decode b pc = .ok (.ldc2_w idx, 3)) (k : G L X Γ nL Q pn lv (.long v :: st) M) : G L X Γ nL Q pc lv st M := by
  subst hp
  exact fun H locs ls hl hP hS => lv_ldc2 K.ex K.cd K.ow (K.ts _ hw) hd (k H locs ls hl hP hS)
theorem g_iload_n (K : Kx L X Γ own b nL d ret) {pn : Nat} (hp : pc + 1 = pn) {kf : Fin 4} {x : Int32} (q : Nat) (hq : lv[q]? = some ((kf : Nat), .int x)) (hd : decode b pc = .ok (.iload_n kf, 1)) (k : G L X Γ nL Q pn lv (.int x :: st) M) : G L X Γ nL Q pc lv st M := by
  subst hp
  exact fun H locs ls hl hP hS => lv_iload_n K.ex K.cd hd rfl (lv_at hl q hq) (k H locs ls hl hP hS)
theorem g_iload (K : Kx L X Γ own b nL d ret) {pn : Nat} (hp : pc + 2 = pn) {i : Nat} {x : Int32} (q : Nat) (hq : lv[q]? = some (i, .int x)) (hd : decode b pc = .ok (.iload i, 2)) (k : G L X Γ nL Q pn lv (.int x :: st) M) : G L X Γ nL Q pc lv st M := by
  subst hp
  exact fun H locs ls hl hP hS => lv_iload K.ex K.cd hd (lv_at hl q hq) (k H locs ls hl hP hS)
theorem g_lload_n (K : Kx L X Γ own b nL d ret) {pn : Nat} (hp : pc + 1 = pn) {kf : Fin 4} {x : Int64} (q : Nat) (hq : lv[q]? = some ((kf : Nat), .long x)) (hd : decode b pc = .ok (.lload_n kf, 1)) (k : G L X Γ nL Q pn lv (.long x :: st) M) : G L X Γ nL Q pc lv st M := by
  subst hp
  exact fun H locs ls hl hP hS => lv_lload_n K.ex K.cd hd rfl (lv_at hl q hq) (k H locs ls hl hP hS)
theorem g_lload (K : Kx L X Γ own b nL d ret) {pn : Nat} (hp : pc + 2 = pn) {i : Nat} {x : Int64} (q : Nat) (hq : lv[q]? = some (i, .long x)) (hd : decode b pc = .ok (.lload i, 2)) (k : G L X Γ nL Q pn lv (.long x :: st) M) : G L X Γ nL Q pc lv st M := by
  subst hp
  exact fun H locs ls hl hP hS => lv_lload K.ex K.cd hd (lv_at hl q hq) (k H locs ls hl hP hS)
theorem g_aload_n (K : Kx L X Γ own b nL d ret) {pn : Nat} (hp : pc + 1 = pn) {kf : Fin 4} {x : Nat} (q : Nat) (hq : lv[q]? = some ((kf : Nat), .ref x)) (hd : decode b pc = .ok (.aload_n kf, 1)) (k : G L X Γ nL Q pn lv (.ref x :: st) M) : G L X Γ nL Q pc lv st M := by
  subst hp
  exact fun H locs ls hl hP hS => lv_aload_n K.ex K.cd hd rfl (lv_at hl q hq) (k H locs ls hl hP hS)
theorem g_aload (K : Kx L X Γ own b nL d ret) {pn : Nat} (hp : pc + 2 = pn) {i : Nat} {x : Nat} (q : Nat) (hq : lv[q]? = some (i, .ref x)) (hd : decode b pc = .ok (.aload i, 2)) (k : G L X Γ nL Q pn lv (.ref x :: st) M) : G L X Γ nL Q pc lv st M := by
  subst hp
  exact fun H locs ls hl hP hS => lv_aload K.ex K.cd hd (lv_at hl q hq) (k H locs ls hl hP hS)
theorem g_istore_n (K : Kx L X Γ own b nL d ret) {pn : Nat} (hp : pc + 1 = pn) {kf : Fin 4} {i : Nat} {x : Int32} {lv' : List (Nat × Value)} (hd : decode b pc = .ok (.istore_n kf, 1)) (hi : (kf : Nat) = i) (hn : i < nL) (hlv : st1 i (.int x) lv = lv') (k : G L X Γ nL Q pn lv' st M) : G L X Γ nL Q pc lv (.int x :: st) M := by
  subst hp
  exact fun H locs ls hl hP hS => lv_istore_n K.ex K.cd hd hi hl hn hlv (fun ls' hl' => k H locs ls' hl' hP hS)
theorem g_istore (K : Kx L X Γ own b nL d ret) {pn : Nat} (hp : pc + 2 = pn) {i : Nat} {x : Int32} {lv' : List (Nat × Value)} (hd : decode b pc = .ok (.istore i, 2)) (hn : i < nL) (hlv : st1 i (.int x) lv = lv') (k : G L X Γ nL Q pn lv' st M) : G L X Γ nL Q pc lv (.int x :: st) M := by
  subst hp
  exact fun H locs ls hl hP hS => lv_istore K.ex K.cd hd hl hn hlv (fun ls' hl' => k H locs ls' hl' hP hS)
theorem g_lstore_n (K : Kx L X Γ own b nL d ret) {pn : Nat} (hp : pc + 1 = pn) {kf : Fin 4} {i : Nat} {x : Int64} {lv' : List (Nat × Value)} (hd : decode b pc = .ok (.lstore_n kf, 1)) (hi : (kf : Nat) = i) (hn : i + 1 < nL) (hlv : st2 i (.long x) lv = lv') (k : G L X Γ nL Q pn lv' st M) : G L X Γ nL Q pc lv (.long x :: st) M := by
  subst hp
  exact fun H locs ls hl hP hS => lv_lstore_n K.ex K.cd hd hi hl hn hlv (fun ls' hl' => k H locs ls' hl' hP hS)
theorem g_lstore (K : Kx L X Γ own b nL d ret) {pn : Nat} (hp : pc + 2 = pn) {i : Nat} {x : Int64} {lv' : List (Nat × Value)} (hd : decode b pc = .ok (.lstore i, 2)) (hn : i + 1 < nL) (hlv : st2 i (.long x) lv = lv') (k : G L X Γ nL Q pn lv' st M) : G L X Γ nL Q pc lv (.long x :: st) M := by
  subst hp
  exact fun H locs ls hl hP hS => lv_lstore K.ex K.cd hd hl hn hlv (fun ls' hl' => k H locs ls' hl' hP hS)
theorem g_astore_n (K : Kx L X Γ own b nL d ret) {pn : Nat} (hp : pc + 1 = pn) {kf : Fin 4} {i : Nat} {x : Nat} {lv' : List (Nat × Value)} (hd : decode b pc = .ok (.astore_n kf, 1)) (hi : (kf : Nat) = i) (hn : i < nL) (hlv : st1 i (.ref x) lv = lv') (k : G L X Γ nL Q pn lv' st M) : G L X Γ nL Q pc lv (.ref x :: st) M := by
  subst hp
  exact fun H locs ls hl hP hS => lv_astore_n K.ex K.cd hd hi hl hn hlv (fun ls' hl' => k H locs ls' hl' hP hS)
theorem g_astore (K : Kx L X Γ own b nL d ret) {pn : Nat} (hp : pc + 2 = pn) {i : Nat} {x : Nat} {lv' : List (Nat × Value)} (hd : decode b pc = .ok (.astore i, 2)) (hn : i < nL) (hlv : st1 i (.ref x) lv = lv') (k : G L X Γ nL Q pn lv' st M) : G L X Γ nL Q pc lv (.ref x :: st) M := by
  subst hp
  exact fun H locs ls hl hP hS => lv_astore K.ex K.cd hd hl hn hlv (fun ls' hl' => k H locs ls' hl' hP hS)
theorem g_iinc (K : Kx L X Γ own b nL d ret) {pn : Nat} (hp : pc + 3 = pn) {i : Nat} {n : Int} {x v mm : Int32} {lv' : List (Nat × Value)} (q : Nat) (hq : lv[q]? = some (i, .int x)) (hm : Int32.ofInt n = mm) (hv : x + mm = v) (hd : decode b pc = .ok (.iinc i n, 3)) (hn : i < nL) (hlv : st1 i (.int v) lv = lv') (k : G L X Γ nL Q pn lv' st M) : G L X Γ nL Q pc lv st M := by
  subst hp
  exact fun H locs ls hl hP hS => lv_iinc K.ex K.cd hd hl hq (by rw [hm]; exact hv) hn hlv (fun ls' hl' => k H locs ls' hl' hP hS)
theorem g_sub {lv' : List (Nat × Value)} (ks : List Nat) (hlv : lv_pick lv ks = lv') (k : G L X Γ nL Q pc lv' st M) : G L X Γ nL Q pc lv st M :=
  fun H locs ls hl hP hS => k H locs ls (lv_sub hl ks hlv) hP hS
theorem g_aload_nN (K : Kx L X Γ own b nL d ret) {pn : Nat} (hp : pc + 1 = pn) {kf : Fin 4} (q : Nat) (hq : lv[q]? = some ((kf : Nat), .null)) (hd : decode b pc = .ok (.aload_n kf, 1)) (k : G L X Γ nL Q pn lv (.null :: st) M) : G L X Γ nL Q pc lv st M := by
  subst hp
  exact fun H locs ls hl hP hS => lv_aload_nN K.ex K.cd hd rfl (lv_at hl q hq) (k H locs ls hl hP hS)
theorem g_aloadN (K : Kx L X Γ own b nL d ret) {pn : Nat} (hp : pc + 2 = pn) {i : Nat} (q : Nat) (hq : lv[q]? = some (i, .null)) (hd : decode b pc = .ok (.aload i, 2)) (k : G L X Γ nL Q pn lv (.null :: st) M) : G L X Γ nL Q pc lv st M := by
  subst hp
  exact fun H locs ls hl hP hS => lv_aloadN K.ex K.cd hd (lv_at hl q hq) (k H locs ls hl hP hS)
theorem g_astore_nN (K : Kx L X Γ own b nL d ret) {pn : Nat} (hp : pc + 1 = pn) {kf : Fin 4} {i : Nat} {lv' : List (Nat × Value)} (hd : decode b pc = .ok (.astore_n kf, 1)) (hi : (kf : Nat) = i) (hn : i < nL) (hlv : st1 i .null lv = lv') (k : G L X Γ nL Q pn lv' st M) : G L X Γ nL Q pc lv (.null :: st) M := by
  subst hp
  exact fun H locs ls hl hP hS => lv_astore_nN K.ex K.cd hd hi hl hn hlv (fun ls' hl' => k H locs ls' hl' hP hS)
theorem g_astoreN (K : Kx L X Γ own b nL d ret) {pn : Nat} (hp : pc + 2 = pn) {i : Nat} {lv' : List (Nat × Value)} (hd : decode b pc = .ok (.astore i, 2)) (hn : i < nL) (hlv : st1 i .null lv = lv') (k : G L X Γ nL Q pn lv' st M) : G L X Γ nL Q pc lv (.null :: st) M := by
  subst hp
  exact fun H locs ls hl hP hS => lv_astoreN K.ex K.cd hd hl hn hlv (fun ls' hl' => k H locs ls' hl' hP hS)
theorem g_nmr {ρ : Type} {res : ρ} {e : Nat} {f : Nat → Option ρ} (h : bnd e f = some res) (P : Nat → Prop) (hp : P e) (k : ∀ t : Nat, P t → f t = some res → G L X Γ nL Q pc lv (.ref (X.2.2.2.1 t) :: st) M) : G L X Γ nL Q pc lv (.ref (X.2.2.2.1 e) :: st) M := k e hp h
theorem g_nmi {ρ : Type} {res : ρ} {e : Int32} {f : Int32 → Option ρ} (h : bnd e f = some res) (k : ∀ v : Int32, f v = some res → G L X Γ nL Q pc lv (.int v :: st) M) : G L X Γ nL Q pc lv (.int e :: st) M := k e h
theorem g_nml {ρ : Type} {res : ρ} {e : Int64} {f : Int64 → Option ρ} (h : bnd e f = some res) (k : ∀ v : Int64, f v = some res → G L X Γ nL Q pc lv (.long v :: st) M) : G L X Γ nL Q pc lv (.long e :: st) M := k e h
theorem g_iadd (K : Kx L X Γ own b nL d ret) {pn : Nat} (hp : pc + 1 = pn) {x y : Int32}  (hd : decode b pc = .ok (.iadd, 1)) (k : G L X Γ nL Q pn lv (.int (x + y) :: st) M) : G L X Γ nL Q pc lv (.int y :: .int x :: st) M := by
  subst hp
  exact fun H locs ls hl hP hS => lv_iadd K.ex K.cd hd  (k H locs ls hl hP hS)
theorem g_isub (K : Kx L X Γ own b nL d ret) {pn : Nat} (hp : pc + 1 = pn) {x y : Int32}  (hd : decode b pc = .ok (.isub, 1)) (k : G L X Γ nL Q pn lv (.int (x - y) :: st) M) : G L X Γ nL Q pc lv (.int y :: .int x :: st) M := by
  subst hp
  exact fun H locs ls hl hP hS => lv_isub K.ex K.cd hd  (k H locs ls hl hP hS)
theorem g_imul (K : Kx L X Γ own b nL d ret) {pn : Nat} (hp : pc + 1 = pn) {x y : Int32}  (hd : decode b pc = .ok (.imul, 1)) (k : G L X Γ nL Q pn lv (.int (x * y) :: st) M) : G L X Γ nL Q pc lv (.int y :: .int x :: st) M := by
  subst hp
  exact fun H locs ls hl hP hS => lv_imul K.ex K.cd hd  (k H locs ls hl hP hS)
theorem g_iand (K : Kx L X Γ own b nL d ret) {pn : Nat} (hp : pc + 1 = pn) {x y : Int32}  (hd : decode b pc = .ok (.iand, 1)) (k : G L X Γ nL Q pn lv (.int (x &&& y) :: st) M) : G L X Γ nL Q pc lv (.int y :: .int x :: st) M := by
  subst hp
  exact fun H locs ls hl hP hS => lv_iand K.ex K.cd hd  (k H locs ls hl hP hS)
theorem g_ior (K : Kx L X Γ own b nL d ret) {pn : Nat} (hp : pc + 1 = pn) {x y : Int32}  (hd : decode b pc = .ok (.ior, 1)) (k : G L X Γ nL Q pn lv (.int (x ||| y) :: st) M) : G L X Γ nL Q pc lv (.int y :: .int x :: st) M := by
  subst hp
  exact fun H locs ls hl hP hS => lv_ior K.ex K.cd hd  (k H locs ls hl hP hS)
theorem g_ishl (K : Kx L X Γ own b nL d ret) {pn : Nat} (hp : pc + 1 = pn) {x y : Int32}  (hd : decode b pc = .ok (.ishl, 1)) (k : G L X Γ nL Q pn lv (.int (x <<< (y &&& 31)) :: st) M) : G L X Γ nL Q pc lv (.int y :: .int x :: st) M := by
  subst hp
  exact fun H locs ls hl hP hS => lv_ishl K.ex K.cd hd  (k H locs ls hl hP hS)
theorem g_ishr (K : Kx L X Γ own b nL d ret) {pn : Nat} (hp : pc + 1 = pn) {x y : Int32}  (hd : decode b pc = .ok (.ishr, 1)) (k : G L X Γ nL Q pn lv (.int (x >>> (y &&& 31)) :: st) M) : G L X Γ nL Q pc lv (.int y :: .int x :: st) M := by
  subst hp
  exact fun H locs ls hl hP hS => lv_ishr K.ex K.cd hd  (k H locs ls hl hP hS)
theorem g_ladd (K : Kx L X Γ own b nL d ret) {pn : Nat} (hp : pc + 1 = pn) {x y : Int64}  (hd : decode b pc = .ok (.ladd, 1)) (k : G L X Γ nL Q pn lv (.long (x + y) :: st) M) : G L X Γ nL Q pc lv (.long y :: .long x :: st) M := by
  subst hp
  exact fun H locs ls hl hP hS => lv_ladd K.ex K.cd hd  (k H locs ls hl hP hS)
theorem g_lsub (K : Kx L X Γ own b nL d ret) {pn : Nat} (hp : pc + 1 = pn) {x y : Int64}  (hd : decode b pc = .ok (.lsub, 1)) (k : G L X Γ nL Q pn lv (.long (x - y) :: st) M) : G L X Γ nL Q pc lv (.long y :: .long x :: st) M := by
  subst hp
  exact fun H locs ls hl hP hS => lv_lsub K.ex K.cd hd  (k H locs ls hl hP hS)
theorem g_lmul (K : Kx L X Γ own b nL d ret) {pn : Nat} (hp : pc + 1 = pn) {x y : Int64}  (hd : decode b pc = .ok (.lmul, 1)) (k : G L X Γ nL Q pn lv (.long (x * y) :: st) M) : G L X Γ nL Q pc lv (.long y :: .long x :: st) M := by
  subst hp
  exact fun H locs ls hl hP hS => lv_lmul K.ex K.cd hd  (k H locs ls hl hP hS)
theorem g_lor (K : Kx L X Γ own b nL d ret) {pn : Nat} (hp : pc + 1 = pn) {x y : Int64}  (hd : decode b pc = .ok (.lor, 1)) (k : G L X Γ nL Q pn lv (.long (x ||| y) :: st) M) : G L X Γ nL Q pc lv (.long y :: .long x :: st) M := by
  subst hp
  exact fun H locs ls hl hP hS => lv_lor K.ex K.cd hd  (k H locs ls hl hP hS)
theorem g_ineg (K : Kx L X Γ own b nL d ret) {pn : Nat} (hp : pc + 1 = pn) {x : Int32}  (hd : decode b pc = .ok (.ineg, 1)) (k : G L X Γ nL Q pn lv (.int (-x) :: st) M) : G L X Γ nL Q pc lv (.int x :: st) M := by
  subst hp
  exact fun H locs ls hl hP hS => lv_ineg K.ex K.cd hd  (k H locs ls hl hP hS)
theorem g_idiv (K : Kx L X Γ own b nL d ret) {pn : Nat} (hp : pc + 1 = pn) {x y : Int32} (hy : ¬ y = 0) (hd : decode b pc = .ok (.idiv, 1)) (k : G L X Γ nL Q pn lv (.int (x / y) :: st) M) : G L X Γ nL Q pc lv (.int y :: .int x :: st) M := by
  subst hp
  exact fun H locs ls hl hP hS => lv_idiv K.ex K.cd hd hy (k H locs ls hl hP hS)
theorem g_irem (K : Kx L X Γ own b nL d ret) {pn : Nat} (hp : pc + 1 = pn) {x y : Int32} (hy : ¬ y = 0) (hd : decode b pc = .ok (.irem, 1)) (k : G L X Γ nL Q pn lv (.int (x - x / y * y) :: st) M) : G L X Γ nL Q pc lv (.int y :: .int x :: st) M := by
  subst hp
  exact fun H locs ls hl hP hS => lv_irem K.ex K.cd hd hy (k H locs ls hl hP hS)
theorem g_ldiv (K : Kx L X Γ own b nL d ret) {pn : Nat} (hp : pc + 1 = pn) {x y : Int64} (hy : ¬ y = 0) (hd : decode b pc = .ok (.ldiv, 1)) (k : G L X Γ nL Q pn lv (.long (x / y) :: st) M) : G L X Γ nL Q pc lv (.long y :: .long x :: st) M := by
  subst hp
  exact fun H locs ls hl hP hS => lv_ldiv K.ex K.cd hd hy (k H locs ls hl hP hS)
theorem g_lrem (K : Kx L X Γ own b nL d ret) {pn : Nat} (hp : pc + 1 = pn) {x y : Int64} (hy : ¬ y = 0) (hd : decode b pc = .ok (.lrem, 1)) (k : G L X Γ nL Q pn lv (.long (x - x / y * y) :: st) M) : G L X Γ nL Q pc lv (.long y :: .long x :: st) M := by
  subst hp
  exact fun H locs ls hl hP hS => lv_lrem K.ex K.cd hd hy (k H locs ls hl hP hS)
theorem g_i2l (K : Kx L X Γ own b nL d ret) {pn : Nat} (hp : pc + 1 = pn) {x : Int32} (hd : decode b pc = .ok (.i2l, 1)) (k : G L X Γ nL Q pn lv (.long x.toInt64 :: st) M) : G L X Γ nL Q pc lv (.int x :: st) M := by
  subst hp
  exact fun H locs ls hl hP hS => lv_i2l K.ex K.cd hd rfl (k H locs ls hl hP hS)
theorem g_l2i (K : Kx L X Γ own b nL d ret) {pn : Nat} (hp : pc + 1 = pn) {x : Int64} (hd : decode b pc = .ok (.l2i, 1)) (k : G L X Γ nL Q pn lv (.int x.toInt32 :: st) M) : G L X Γ nL Q pc lv (.long x :: st) M := by
  subst hp
  exact fun H locs ls hl hP hS => lv_l2i K.ex K.cd hd rfl (k H locs ls hl hP hS)
theorem g_i2b (K : Kx L X Γ own b nL d ret) {pn : Nat} (hp : pc + 1 = pn) {x : Int32} (hd : decode b pc = .ok (.i2b, 1)) (k : G L X Γ nL Q pn lv (.int x.toInt8.toInt32 :: st) M) : G L X Γ nL Q pc lv (.int x :: st) M := by
  subst hp
  exact fun H locs ls hl hP hS => lv_i2b K.ex K.cd hd rfl (k H locs ls hl hP hS)
theorem g_i2s (K : Kx L X Γ own b nL d ret) {pn : Nat} (hp : pc + 1 = pn) {x : Int32} (hd : decode b pc = .ok (.i2s, 1)) (k : G L X Γ nL Q pn lv (.int x.toInt16.toInt32 :: st) M) : G L X Γ nL Q pc lv (.int x :: st) M := by
  subst hp
  exact fun H locs ls hl hP hS => lv_i2s K.ex K.cd hd rfl (k H locs ls hl hP hS)
theorem g_i2c (K : Kx L X Γ own b nL d ret) {pn : Nat} (hp : pc + 1 = pn) {x : Int32} (hd : decode b pc = .ok (.i2c, 1)) (k : G L X Γ nL Q pn lv (.int (x.toUInt32 % 65536).toInt32 :: st) M) : G L X Γ nL Q pc lv (.int x :: st) M := by
  subst hp
  exact fun H locs ls hl hP hS => lv_i2c K.ex K.cd hd rfl (k H locs ls hl hP hS)
theorem g_iushr (K : Kx L X Γ own b nL d ret) {pn : Nat} (hp : pc + 1 = pn) {x y : Int32} (hd : decode b pc = .ok (.iushr, 1)) (k : G L X Γ nL Q pn lv (.int (x.toUInt32 >>> (y.toUInt32 &&& Int32.toUInt32 31)).toInt32 :: st) M) : G L X Γ nL Q pc lv (.int y :: .int x :: st) M := by
  subst hp
  exact fun H locs ls hl hP hS => lv_iushr K.ex K.cd hd rfl (k H locs ls hl hP hS)
theorem g_lshl (K : Kx L X Γ own b nL d ret) {pn : Nat} (hp : pc + 1 = pn) {x : Int64} {y : Int32} (hd : decode b pc = .ok (.lshl, 1)) (k : G L X Γ nL Q pn lv (.long (x <<< (y.toInt64 &&& 63)) :: st) M) : G L X Γ nL Q pc lv (.int y :: .long x :: st) M := by
  subst hp
  exact fun H locs ls hl hP hS => lv_lshl K.ex K.cd hd rfl (k H locs ls hl hP hS)
theorem g_lcmp (K : Kx L X Γ own b nL d ret) {pn : Nat} (hp : pc + 1 = pn) {x y : Int64} (hd : decode b pc = .ok (.lcmp, 1)) (k : G L X Γ nL Q pn lv (.int (lg_cmp x y) :: st) M) : G L X Γ nL Q pc lv (.long y :: .long x :: st) M := by
  subst hp
  exact fun H locs ls hl hP hS => W.lcmp K.ex K.cd hd (k H locs ls hl hP hS)
theorem g_dup (K : Kx L X Γ own b nL d ret) {pn : Nat} (hp : pc + 1 = pn) {v : Value} (hv : v.category = 1) (hd : decode b pc = .ok (.dup, 1)) (k : G L X Γ nL Q pn lv (v :: v :: st) M) : G L X Γ nL Q pc lv (v :: st) M := by
  subst hp
  exact fun H locs ls hl hP hS => lv_dup K.ex K.cd hd hv (k H locs ls hl hP hS)
theorem g_pop (K : Kx L X Γ own b nL d ret) {pn : Nat} (hp : pc + 1 = pn) {v : Value} (hv : v.category = 1) (hd : decode b pc = .ok (.pop, 1)) (k : G L X Γ nL Q pn lv st M) : G L X Γ nL Q pc lv (v :: st) M := by
  subst hp
  exact fun H locs ls hl hP hS => lv_pop K.ex K.cd hd hv (k H locs ls hl hP hS)
theorem g_goto (K : Kx L X Γ own b nL d ret) {off : Int} {tgt : Nat} (ht : (pc : Int) + off = (tgt : Int)) (hd : decode b pc = .ok (.goto off, 3)) (k : G L X Γ nL Q tgt lv st M) : G L X Γ nL Q pc lv st M :=
  fun H locs ls hl hP hS => lv_goto K.ex K.cd hd ht (k H locs ls hl hP hS)
theorem g_icmp_eq (K : Kx L X Γ own b nL d ret) {pn : Nat} (hp : pc + 3 = pn) {x y : Int32} {off : Int} {tgt : Nat} {ρ : Type} {res : ρ} {A B : Option ρ} (ht : (pc : Int) + off = (tgt : Int)) (hd : decode b pc = .ok (.if_icmp .eq off, 3)) (h : (if x = y then A else B) = some res) (kt : A = some res → G L X Γ nL Q tgt lv st M) (kf : B = some res → G L X Γ nL Q pn lv st M) : G L X Γ nL Q pc lv (.int y :: .int x :: st) M := by
  subst hp
  exact fun H locs ls hl hP hS => lv_icmp_eq K.ex K.cd hd ht (fun z => kt ((ite_e h).1 z) H locs ls hl hP hS) (fun z => kf ((ite_e h).2 z) H locs ls hl hP hS)
theorem g_icmp_ne (K : Kx L X Γ own b nL d ret) {pn : Nat} (hp : pc + 3 = pn) {x y : Int32} {off : Int} {tgt : Nat} {ρ : Type} {res : ρ} {A B : Option ρ} (ht : (pc : Int) + off = (tgt : Int)) (hd : decode b pc = .ok (.if_icmp .ne off, 3)) (h : (if x = y then B else A) = some res) (kt : A = some res → G L X Γ nL Q tgt lv st M) (kf : B = some res → G L X Γ nL Q pn lv st M) : G L X Γ nL Q pc lv (.int y :: .int x :: st) M := by
  subst hp
  exact fun H locs ls hl hP hS => lv_icmp_ne K.ex K.cd hd ht (fun z => kt ((ite_e h).2 z) H locs ls hl hP hS) (fun z => kf ((ite_e h).1 z) H locs ls hl hP hS)
theorem g_icmp_lt (K : Kx L X Γ own b nL d ret) {pn : Nat} (hp : pc + 3 = pn) {x y : Int32} {off : Int} {tgt : Nat} {ρ : Type} {res : ρ} {A B : Option ρ} (ht : (pc : Int) + off = (tgt : Int)) (hd : decode b pc = .ok (.if_icmp .lt off, 3)) (h : (if x < y then A else B) = some res) (kt : A = some res → G L X Γ nL Q tgt lv st M) (kf : B = some res → G L X Γ nL Q pn lv st M) : G L X Γ nL Q pc lv (.int y :: .int x :: st) M := by
  subst hp
  exact fun H locs ls hl hP hS => lv_icmp_lt K.ex K.cd hd ht (fun z => kt ((ite_e h).1 z) H locs ls hl hP hS) (fun z => kf ((ite_e h).2 z) H locs ls hl hP hS)
theorem g_icmp_ge (K : Kx L X Γ own b nL d ret) {pn : Nat} (hp : pc + 3 = pn) {x y : Int32} {off : Int} {tgt : Nat} {ρ : Type} {res : ρ} {A B : Option ρ} (ht : (pc : Int) + off = (tgt : Int)) (hd : decode b pc = .ok (.if_icmp .ge off, 3)) (h : (if y ≤ x then A else B) = some res) (kt : A = some res → G L X Γ nL Q tgt lv st M) (kf : B = some res → G L X Γ nL Q pn lv st M) : G L X Γ nL Q pc lv (.int y :: .int x :: st) M := by
  subst hp
  exact fun H locs ls hl hP hS => lv_icmp_ge K.ex K.cd hd ht (fun z => kt ((ite_e h).1 z) H locs ls hl hP hS) (fun z => kf ((ite_e h).2 z) H locs ls hl hP hS)
theorem g_icmp_gt (K : Kx L X Γ own b nL d ret) {pn : Nat} (hp : pc + 3 = pn) {x y : Int32} {off : Int} {tgt : Nat} {ρ : Type} {res : ρ} {A B : Option ρ} (ht : (pc : Int) + off = (tgt : Int)) (hd : decode b pc = .ok (.if_icmp .gt off, 3)) (h : (if y < x then A else B) = some res) (kt : A = some res → G L X Γ nL Q tgt lv st M) (kf : B = some res → G L X Γ nL Q pn lv st M) : G L X Γ nL Q pc lv (.int y :: .int x :: st) M := by
  subst hp
  exact fun H locs ls hl hP hS => lv_icmp_gt K.ex K.cd hd ht (fun z => kt ((ite_e h).1 z) H locs ls hl hP hS) (fun z => kf ((ite_e h).2 z) H locs ls hl hP hS)
theorem g_icmp_le (K : Kx L X Γ own b nL d ret) {pn : Nat} (hp : pc + 3 = pn) {x y : Int32} {off : Int} {tgt : Nat} {ρ : Type} {res : ρ} {A B : Option ρ} (ht : (pc : Int) + off = (tgt : Int)) (hd : decode b pc = .ok (.if_icmp .le off, 3)) (h : (if x ≤ y then A else B) = some res) (kt : A = some res → G L X Γ nL Q tgt lv st M) (kf : B = some res → G L X Γ nL Q pn lv st M) : G L X Γ nL Q pc lv (.int y :: .int x :: st) M := by
  subst hp
  exact fun H locs ls hl hP hS => lv_icmp_le K.ex K.cd hd ht (fun z => kt ((ite_e h).1 z) H locs ls hl hP hS) (fun z => kf ((ite_e h).2 z) H locs ls hl hP hS)
theorem g_if_eq (K : Kx L X Γ own b nL d ret) {pn : Nat} (hp : pc + 3 = pn) {x : Int32} {off : Int} {tgt : Nat} {ρ : Type} {res : ρ} {A B : Option ρ} (ht : (pc : Int) + off = (tgt : Int)) (hd : decode b pc = .ok (.ifCond .eq off, 3)) (h : (if x = 0 then A else B) = some res) (kt : A = some res → G L X Γ nL Q tgt lv st M) (kf : B = some res → G L X Γ nL Q pn lv st M) : G L X Γ nL Q pc lv (.int x :: st) M := by
  subst hp
  exact fun H locs ls hl hP hS => lv_if_eq K.ex K.cd hd ht (fun z => kt ((ite_e h).1 z) H locs ls hl hP hS) (fun z => kf ((ite_e h).2 z) H locs ls hl hP hS)
theorem g_if_ne (K : Kx L X Γ own b nL d ret) {pn : Nat} (hp : pc + 3 = pn) {x : Int32} {off : Int} {tgt : Nat} {ρ : Type} {res : ρ} {A B : Option ρ} (ht : (pc : Int) + off = (tgt : Int)) (hd : decode b pc = .ok (.ifCond .ne off, 3)) (h : (if x = 0 then B else A) = some res) (kt : A = some res → G L X Γ nL Q tgt lv st M) (kf : B = some res → G L X Γ nL Q pn lv st M) : G L X Γ nL Q pc lv (.int x :: st) M := by
  subst hp
  exact fun H locs ls hl hP hS => lv_if_ne K.ex K.cd hd ht (fun z => kt ((ite_e h).2 z) H locs ls hl hP hS) (fun z => kf ((ite_e h).1 z) H locs ls hl hP hS)
theorem g_if_lt (K : Kx L X Γ own b nL d ret) {pn : Nat} (hp : pc + 3 = pn) {x : Int32} {off : Int} {tgt : Nat} {ρ : Type} {res : ρ} {A B : Option ρ} (ht : (pc : Int) + off = (tgt : Int)) (hd : decode b pc = .ok (.ifCond .lt off, 3)) (h : (if x < 0 then A else B) = some res) (kt : A = some res → G L X Γ nL Q tgt lv st M) (kf : B = some res → G L X Γ nL Q pn lv st M) : G L X Γ nL Q pc lv (.int x :: st) M := by
  subst hp
  exact fun H locs ls hl hP hS => lv_if_lt K.ex K.cd hd ht (fun z => kt ((ite_e h).1 z) H locs ls hl hP hS) (fun z => kf ((ite_e h).2 z) H locs ls hl hP hS)
theorem g_if_ge (K : Kx L X Γ own b nL d ret) {pn : Nat} (hp : pc + 3 = pn) {x : Int32} {off : Int} {tgt : Nat} {ρ : Type} {res : ρ} {A B : Option ρ} (ht : (pc : Int) + off = (tgt : Int)) (hd : decode b pc = .ok (.ifCond .ge off, 3)) (h : (if 0 ≤ x then A else B) = some res) (kt : A = some res → G L X Γ nL Q tgt lv st M) (kf : B = some res → G L X Γ nL Q pn lv st M) : G L X Γ nL Q pc lv (.int x :: st) M := by
  subst hp
  exact fun H locs ls hl hP hS => lv_if_ge K.ex K.cd hd ht (fun z => kt ((ite_e h).1 z) H locs ls hl hP hS) (fun z => kf ((ite_e h).2 z) H locs ls hl hP hS)
theorem g_if_gt (K : Kx L X Γ own b nL d ret) {pn : Nat} (hp : pc + 3 = pn) {x : Int32} {off : Int} {tgt : Nat} {ρ : Type} {res : ρ} {A B : Option ρ} (ht : (pc : Int) + off = (tgt : Int)) (hd : decode b pc = .ok (.ifCond .gt off, 3)) (h : (if 0 < x then A else B) = some res) (kt : A = some res → G L X Γ nL Q tgt lv st M) (kf : B = some res → G L X Γ nL Q pn lv st M) : G L X Γ nL Q pc lv (.int x :: st) M := by
  subst hp
  exact fun H locs ls hl hP hS => lv_if_gt K.ex K.cd hd ht (fun z => kt ((ite_e h).1 z) H locs ls hl hP hS) (fun z => kf ((ite_e h).2 z) H locs ls hl hP hS)
theorem g_if_le (K : Kx L X Γ own b nL d ret) {pn : Nat} (hp : pc + 3 = pn) {x : Int32} {off : Int} {tgt : Nat} {ρ : Type} {res : ρ} {A B : Option ρ} (ht : (pc : Int) + off = (tgt : Int)) (hd : decode b pc = .ok (.ifCond .le off, 3)) (h : (if x ≤ 0 then A else B) = some res) (kt : A = some res → G L X Γ nL Q tgt lv st M) (kf : B = some res → G L X Γ nL Q pn lv st M) : G L X Γ nL Q pc lv (.int x :: st) M := by
  subst hp
  exact fun H locs ls hl hP hS => lv_if_le K.ex K.cd hd ht (fun z => kt ((ite_e h).1 z) H locs ls hl hP hS) (fun z => kf ((ite_e h).2 z) H locs ls hl hP hS)
theorem b2i_0 {z : Bool} : b2i z = 0 ↔ ¬ z = true := by cases z <;> decide
theorem g_ifB_eq (K : Kx L X Γ own b nL d ret) {pn : Nat} (hp : pc + 3 = pn) {z : Bool} {off : Int} {tgt : Nat} {ρ : Type} {res : ρ} {A B : Option ρ} (ht : (pc : Int) + off = (tgt : Int)) (hd : decode b pc = .ok (.ifCond .eq off, 3)) (h : (if z = true then B else A) = some res) (kt : A = some res → G L X Γ nL Q tgt lv st M) (kf : B = some res → G L X Γ nL Q pn lv st M) : G L X Γ nL Q pc lv (.int (b2i z) :: st) M := by
  subst hp
  exact fun H locs ls hl hP hS => lv_if_eq K.ex K.cd hd ht (fun z => kt ((ite_e h).2 (b2i_0.mp z)) H locs ls hl hP hS) (fun z => kf ((ite_e h).1 ((Decidable.not_not.mp fun w => z (b2i_0.mpr w)))) H locs ls hl hP hS)
theorem g_ifB_ne (K : Kx L X Γ own b nL d ret) {pn : Nat} (hp : pc + 3 = pn) {z : Bool} {off : Int} {tgt : Nat} {ρ : Type} {res : ρ} {A B : Option ρ} (ht : (pc : Int) + off = (tgt : Int)) (hd : decode b pc = .ok (.ifCond .ne off, 3)) (h : (if z = true then A else B) = some res) (kt : A = some res → G L X Γ nL Q tgt lv st M) (kf : B = some res → G L X Γ nL Q pn lv st M) : G L X Γ nL Q pc lv (.int (b2i z) :: st) M := by
  subst hp
  exact fun H locs ls hl hP hS => lv_if_ne K.ex K.cd hd ht (fun z => kt ((ite_e h).1 ((Decidable.not_not.mp fun w => z (b2i_0.mpr w)))) H locs ls hl hP hS) (fun z => kf ((ite_e h).2 (b2i_0.mp z)) H locs ls hl hP hS)
theorem g_ifT_eq (K : Kx L X Γ own b nL d ret) {x : Int32} {off : Int} {tgt : Nat} (ht : (pc : Int) + off = (tgt : Int)) (hd : decode b pc = .ok (.ifCond .eq off, 3)) (hc : x = 0) (kt : G L X Γ nL Q tgt lv st M) : G L X Γ nL Q pc lv (.int x :: st) M :=
  fun H locs ls hl hP hS => lv_if_eq K.ex K.cd hd ht (fun z => kt H locs ls hl hP hS) (fun z => absurd hc (by first | exact z | exact not_not_intro z))
theorem g_ifF_eq (K : Kx L X Γ own b nL d ret) {pn : Nat} (hp : pc + 3 = pn) {x : Int32} {off : Int} {tgt : Nat} (ht : (pc : Int) + off = (tgt : Int)) (hd : decode b pc = .ok (.ifCond .eq off, 3)) (hc : ¬ x = 0) (kf : G L X Γ nL Q pn lv st M) : G L X Γ nL Q pc lv (.int x :: st) M := by
  subst hp
  exact fun H locs ls hl hP hS => lv_if_eq K.ex K.cd hd ht (fun z => absurd z (by first | exact hc | exact not_not_intro hc)) (fun z => kf H locs ls hl hP hS)
theorem g_ifT_ne (K : Kx L X Γ own b nL d ret) {x : Int32} {off : Int} {tgt : Nat} (ht : (pc : Int) + off = (tgt : Int)) (hd : decode b pc = .ok (.ifCond .ne off, 3)) (hc : ¬ x = 0) (kt : G L X Γ nL Q tgt lv st M) : G L X Γ nL Q pc lv (.int x :: st) M :=
  fun H locs ls hl hP hS => lv_if_ne K.ex K.cd hd ht (fun z => kt H locs ls hl hP hS) (fun z => absurd hc (by first | exact z | exact not_not_intro z))
theorem g_ifF_ne (K : Kx L X Γ own b nL d ret) {pn : Nat} (hp : pc + 3 = pn) {x : Int32} {off : Int} {tgt : Nat} (ht : (pc : Int) + off = (tgt : Int)) (hd : decode b pc = .ok (.ifCond .ne off, 3)) (hc : x = 0) (kf : G L X Γ nL Q pn lv st M) : G L X Γ nL Q pc lv (.int x :: st) M := by
  subst hp
  exact fun H locs ls hl hP hS => lv_if_ne K.ex K.cd hd ht (fun z => absurd z (by first | exact hc | exact not_not_intro hc)) (fun z => kf H locs ls hl hP hS)
theorem g_ifT_lt (K : Kx L X Γ own b nL d ret) {x : Int32} {off : Int} {tgt : Nat} (ht : (pc : Int) + off = (tgt : Int)) (hd : decode b pc = .ok (.ifCond .lt off, 3)) (hc : x < 0) (kt : G L X Γ nL Q tgt lv st M) : G L X Γ nL Q pc lv (.int x :: st) M :=
  fun H locs ls hl hP hS => lv_if_lt K.ex K.cd hd ht (fun z => kt H locs ls hl hP hS) (fun z => absurd hc (by first | exact z | exact not_not_intro z))
theorem g_ifF_lt (K : Kx L X Γ own b nL d ret) {pn : Nat} (hp : pc + 3 = pn) {x : Int32} {off : Int} {tgt : Nat} (ht : (pc : Int) + off = (tgt : Int)) (hd : decode b pc = .ok (.ifCond .lt off, 3)) (hc : ¬ x < 0) (kf : G L X Γ nL Q pn lv st M) : G L X Γ nL Q pc lv (.int x :: st) M := by
  subst hp
  exact fun H locs ls hl hP hS => lv_if_lt K.ex K.cd hd ht (fun z => absurd z (by first | exact hc | exact not_not_intro hc)) (fun z => kf H locs ls hl hP hS)
theorem g_ifT_ge (K : Kx L X Γ own b nL d ret) {x : Int32} {off : Int} {tgt : Nat} (ht : (pc : Int) + off = (tgt : Int)) (hd : decode b pc = .ok (.ifCond .ge off, 3)) (hc : 0 ≤ x) (kt : G L X Γ nL Q tgt lv st M) : G L X Γ nL Q pc lv (.int x :: st) M :=
  fun H locs ls hl hP hS => lv_if_ge K.ex K.cd hd ht (fun z => kt H locs ls hl hP hS) (fun z => absurd hc (by first | exact z | exact not_not_intro z))
theorem g_ifF_ge (K : Kx L X Γ own b nL d ret) {pn : Nat} (hp : pc + 3 = pn) {x : Int32} {off : Int} {tgt : Nat} (ht : (pc : Int) + off = (tgt : Int)) (hd : decode b pc = .ok (.ifCond .ge off, 3)) (hc : ¬ 0 ≤ x) (kf : G L X Γ nL Q pn lv st M) : G L X Γ nL Q pc lv (.int x :: st) M := by
  subst hp
  exact fun H locs ls hl hP hS => lv_if_ge K.ex K.cd hd ht (fun z => absurd z (by first | exact hc | exact not_not_intro hc)) (fun z => kf H locs ls hl hP hS)
theorem g_ifT_gt (K : Kx L X Γ own b nL d ret) {x : Int32} {off : Int} {tgt : Nat} (ht : (pc : Int) + off = (tgt : Int)) (hd : decode b pc = .ok (.ifCond .gt off, 3)) (hc : 0 < x) (kt : G L X Γ nL Q tgt lv st M) : G L X Γ nL Q pc lv (.int x :: st) M :=
  fun H locs ls hl hP hS => lv_if_gt K.ex K.cd hd ht (fun z => kt H locs ls hl hP hS) (fun z => absurd hc (by first | exact z | exact not_not_intro z))
theorem g_ifF_gt (K : Kx L X Γ own b nL d ret) {pn : Nat} (hp : pc + 3 = pn) {x : Int32} {off : Int} {tgt : Nat} (ht : (pc : Int) + off = (tgt : Int)) (hd : decode b pc = .ok (.ifCond .gt off, 3)) (hc : ¬ 0 < x) (kf : G L X Γ nL Q pn lv st M) : G L X Γ nL Q pc lv (.int x :: st) M := by
  subst hp
  exact fun H locs ls hl hP hS => lv_if_gt K.ex K.cd hd ht (fun z => absurd z (by first | exact hc | exact not_not_intro hc)) (fun z => kf H locs ls hl hP hS)
theorem g_ifT_le (K : Kx L X Γ own b nL d ret) {x : Int32} {off : Int} {tgt : Nat} (ht : (pc : Int) + off = (tgt : Int)) (hd : decode b pc = .ok (.ifCond .le off, 3)) (hc : x ≤ 0) (kt : G L X Γ nL Q tgt lv st M) : G L X Γ nL Q pc lv (.int x :: st) M :=
  fun H locs ls hl hP hS => lv_if_le K.ex K.cd hd ht (fun z => kt H locs ls hl hP hS) (fun z => absurd hc (by first | exact z | exact not_not_intro z))
theorem g_ifF_le (K : Kx L X Γ own b nL d ret) {pn : Nat} (hp : pc + 3 = pn) {x : Int32} {off : Int} {tgt : Nat} (ht : (pc : Int) + off = (tgt : Int)) (hd : decode b pc = .ok (.ifCond .le off, 3)) (hc : ¬ x ≤ 0) (kf : G L X Γ nL Q pn lv st M) : G L X Γ nL Q pc lv (.int x :: st) M := by
  subst hp
  exact fun H locs ls hl hP hS => lv_if_le K.ex K.cd hd ht (fun z => absurd z (by first | exact hc | exact not_not_intro hc)) (fun z => kf H locs ls hl hP hS)
theorem g_ifnull (K : Kx L X Γ own b nL d ret) {pn : Nat} (hp : pc + 3 = pn) {x : Nat} {off : Int} (hd : decode b pc = .ok (.ifnull off, 3)) (k : G L X Γ nL Q pn lv st M) : G L X Γ nL Q pc lv (.ref x :: st) M := by
  subst hp
  exact fun H locs ls hl hP hS => lv_ifnull K.ex K.cd hd (k H locs ls hl hP hS)
theorem g_ifnonnull (K : Kx L X Γ own b nL d ret) {x : Nat} {off : Int} {tgt : Nat} (ht : (pc : Int) + off = (tgt : Int)) (hd : decode b pc = .ok (.ifnonnull off, 3)) (k : G L X Γ nL Q tgt lv st M) : G L X Γ nL Q pc lv (.ref x :: st) M :=
  fun H locs ls hl hP hS => lv_ifnonnull K.ex K.cd hd ht (k H locs ls hl hP hS)
theorem g_ifnullN (K : Kx L X Γ own b nL d ret)  {off : Int} {tgt : Nat} (ht : (pc : Int) + off = (tgt : Int)) (hd : decode b pc = .ok (.ifnull off, 3)) (k : G L X Γ nL Q tgt lv st M) : G L X Γ nL Q pc lv (.null :: st) M :=
  fun H locs ls hl hP hS => lv_ifnullN K.ex K.cd hd ht (k H locs ls hl hP hS)
theorem g_ifnonnullN (K : Kx L X Γ own b nL d ret) {pn : Nat} (hp : pc + 3 = pn)  {off : Int} (hd : decode b pc = .ok (.ifnonnull off, 3)) (k : G L X Γ nL Q pn lv st M) : G L X Γ nL Q pc lv (.null :: st) M := by
  subst hp
  exact fun H locs ls hl hP hS => lv_ifnonnullN K.ex K.cd hd (k H locs ls hl hP hS)
theorem g_null (K : Kx L X Γ own b nL d ret) {pn : Nat} (hp : pc + 1 = pn) (hd : decode b pc = .ok (.aconst_null, 1)) (k : G L X Γ nL Q pn lv (.null :: st) M) : G L X Γ nL Q pc lv st M := by
  subst hp
  exact fun H locs ls hl hP hS => lv_null K.ex K.cd hd (k H locs ls hl hP hS)
theorem g_tsw (K : Kx L X Γ own b nL d ret) {x v : Int32} {dflt lo hi off : Int} {offs : Array Int} {len tgt : Nat} (hx : x = v) (h1 : ¬ v.toInt < lo) (h2 : ¬ hi < v.toInt) (ho : offs[(v.toInt - lo).toNat]? = some off) (ht : (pc : Int) + off = (tgt : Int)) (hd : decode b pc = .ok (.tableswitch dflt lo hi offs, len)) (k : G L X Γ nL Q tgt lv st M) : G L X Γ nL Q pc lv (.int x :: st) M := by
  subst hx
  exact fun H locs ls hl hP hS => lv_tableIn K.ex K.cd hd h1 h2 ho ht (k H locs ls hl hP hS)
theorem g_tswD (K : Kx L X Γ own b nL d ret) {x : Int32} {dflt lo hi : Int} {offs : Array Int} {len tgt : Nat} (vs : List Int32) (hv : ∀ i : Nat, i < vs.length → (vs.getD i 0).toInt = lo + i) (hn : hi < lo + vs.length) (hx : ∀ v ∈ vs, ¬ x = v) (ht : (pc : Int) + dflt = (tgt : Int)) (hd : decode b pc = .ok (.tableswitch dflt lo hi offs, len)) (k : G L X Γ nL Q tgt lv st M) : G L X Γ nL Q pc lv (.int x :: st) M := by
  have hz : x.toInt < lo ∨ hi < x.toInt := by
    refine Decidable.byContradiction fun z => ?_
    have z1 : ¬ x.toInt < lo := fun w => z (Or.inl w)
    have z2 : ¬ hi < x.toInt := fun w => z (Or.inr w)
    have hlt : (x.toInt - lo).toNat < vs.length := by omega
    have e := hv _ hlt
    refine hx (vs.getD (x.toInt - lo).toNat 0) ?_ ?_
    · rw [List.getD_eq_getElem?_getD, List.getElem?_eq_getElem hlt]
      exact List.getElem_mem hlt
    · apply Int32.toInt_inj.mp
      rw [e]
      omega
  exact fun H locs ls hl hP hS => lv_tableOut K.ex K.cd hd hz ht (k H locs ls hl hP hS)
theorem g_lsw (K : Kx L X Γ own b nL d ret) {x : Int32} {dflt off : Int} {ps : Array (Int × Int)} {len tgt : Nat} (ho : Op.lookupswitch.offset ps.toList dflt x.toInt = off) (hp : (ps.toList.zip (ps.toList.drop 1)).all (fun (a, next) => a.1 < next.1) = true) (ht : (pc : Int) + off = (tgt : Int)) (hd : decode b pc = .ok (.lookupswitch dflt ps, len)) (k : G L X Γ nL Q tgt lv st M) : G L X Γ nL Q pc lv (.int x :: st) M :=
  fun H locs ls hl hP hS => lv_lookup K.ex K.cd hd hp ho ht (k H locs ls hl hP hS)
theorem lsw_0 (dflt k : Int) : Op.lookupswitch.offset [] dflt k = dflt := rfl
theorem lsw_t {x v : Int32} {a o : Int} {r : List (Int × Int)} {dflt : Int} (h : x = v) (ha : v.toInt = a) : Op.lookupswitch.offset ((a, o) :: r) dflt x.toInt = o := by
  subst h
  rw [lookupswitch.offset_cons, if_pos ha.symm]
theorem lsw_f {x v : Int32} {a o w : Int} {r : List (Int × Int)} {dflt : Int} (h : ¬ x = v) (ha : v.toInt = a) (k : Op.lookupswitch.offset r dflt x.toInt = w) : Op.lookupswitch.offset ((a, o) :: r) dflt x.toInt = w := by
  rw [lookupswitch.offset_cons, if_neg (fun z => h (Int32.toInt_inj.mp (by rw [ha, z]))), k]
theorem g_get (K : Kx L X Γ own b nL d ret) {pn : Nat} (hp : pc + 3 = pn) {idx ci k t cd : Nat} {sp : List Nat} {v : Value} (F : FL own idx ci k) (hc : L[t]? = some (.inl (ci, sp))) (hk : sp[k]? = some cd) (hv : fv X.2.2.2.1 (M t) k cd = v) (hd : decode b pc = .ok (.getfield idx, 3)) (kk : G L X Γ nL Q pn lv (v :: st) M) : G L X Γ nL Q pc lv (.ref (X.2.2.2.1 t) :: st) M := by
  subst hp
  obtain ⟨C, T, N, h1, h2, h3, h4⟩ := F
  subst hv
  intro H locs ls hl hP hS
  rcases h4 with h4 | ⟨host, h4⟩
  · exact va_get (D := X.2.1) (cl := vwCl) (Ts := gt) K.ex K.cd K.ts h3 K.ow K.kk hP t (wsO_at hc) h1 k h2 (K.ts _ h4) (fun _ h => h) (flds_at hk) hd (kk H locs ls hl hP hS)
  · exact va_getN (D := X.2.1) (cl := vwCl) (Ts := gt) K.ex K.cd K.ts h3 K.ow K.kk hP t (wsO_at hc) h1 k h2 (K.nw _ h4) (fun _ h => h) (flds_at hk) hd (kk H locs ls hl hP hS)
theorem g_geti (K : Kx L X Γ own b nL d ret) {pn : Nat} (hp : pc + 3 = pn) {idx ci k t : Nat} {sp : List Nat} (F : FL own idx ci k) (hc : L[t]? = some (.inl (ci, sp))) (hk : sp[k]? = some 0) (hd : decode b pc = .ok (.getfield idx, 3)) (kk : G L X Γ nL Q pn lv (.int (M t k) :: st) M) : G L X Γ nL Q pc lv (.ref (X.2.2.2.1 t) :: st) M := by
  subst hp
  exact g_get K rfl F hc hk rfl hd kk
theorem g_getl (K : Kx L X Γ own b nL d ret) {pn : Nat} (hp : pc + 3 = pn) {idx ci k t : Nat} {sp : List Nat} (F : FL own idx ci k) (hc : L[t]? = some (.inl (ci, sp))) (hk : sp[k]? = some 1) (hd : decode b pc = .ok (.getfield idx, 3)) (kk : G L X Γ nL Q pn lv (.long (M t k).toInt64 :: st) M) : G L X Γ nL Q pc lv (.ref (X.2.2.2.1 t) :: st) M := by
  subst hp
  exact g_get K rfl F hc hk rfl hd kk
theorem g_getr (K : Kx L X Γ own b nL d ret) {pn : Nat} (hp : pc + 3 = pn) {idx ci k t j : Nat} {sp : List Nat} (F : FL own idx ci k) (hc : L[t]? = some (.inl (ci, sp))) (hk : sp[k]? = some (j + 2)) (hd : decode b pc = .ok (.getfield idx, 3)) (kk : G L X Γ nL Q pn lv (.ref (X.2.2.2.1 j) :: st) M) : G L X Γ nL Q pc lv (.ref (X.2.2.2.1 t) :: st) M := by
  subst hp
  exact g_get K rfl F hc hk rfl hd kk
theorem g_put (K : Kx L X Γ own b nL d ret) {pn : Nat} (hp : pc + 3 = pn) {idx ci k t cd : Nat} {sp : List Nat} {ty : FieldType} {x : Int32} {v : Value} (F : FP own idx ci k ty) (hc : L[t]? = some (.inl (ci, sp))) (hk : sp[k]? = some cd) (hcd : cd < 2) (hv : fv X.2.2.2.1 (upd (M t) k x) k cd = v) (hn : narrow ty v = v) (hf : fits ty v = true) (hd : decode b pc = .ok (.putfield idx, 3)) (kk : G L X Γ nL Q pn lv st (wr M t k x)) : G L X Γ nL Q pc lv (v :: .ref (X.2.2.2.1 t) :: st) M := by
  subst hp
  obtain ⟨C, T, N, ty0, h1, h2, h3, h4, h5, h6, h7, h8⟩ := F
  intro H locs ls hl hP hS
  have e := wsO_put (X := X) (M := M) hc hk hv hcd
  rcases h4 with h4 | ⟨host, h4⟩
  · exact va_put (D := X.2.1) (cl := vwCl) (Ts := gt) K.ex K.cd K.ts h3 ty0 h5 h6 K.ow K.kk hP (K.ad.D M) hS t (wsO_at hc) h1 k h2 (K.ts _ h4) (fun _ h => h) h7 h8 hn hf (flds_len hk) hd (fun H1 locs1 hP1 hD1 hS1 => by
      rw [e] at hP1
      exact kk H1 locs1 ls hl hP1 hS1)
  · exact va_putN (D := X.2.1) (cl := vwCl) (Ts := gt) K.ex K.cd K.ts h3 ty0 h5 h6 K.ow K.kk hP (K.ad.D M) hS t (wsO_at hc) h1 k h2 (K.nw _ h4) (fun _ h => h) h7 h8 hn hf (flds_len hk) hd (fun H1 locs1 hP1 hD1 hS1 => by
      rw [e] at hP1
      exact kk H1 locs1 ls hl hP1 hS1)
theorem upd_at (f : Nat → Int32) (k : Nat) (x : Int32) : upd f k x k = x := by simp [upd]
theorem g_puti (K : Kx L X Γ own b nL d ret) {pn : Nat} (hp : pc + 3 = pn) {idx ci k t : Nat} {sp : List Nat} {x : Int32} {ρ : Type} {res : ρ} {f : Mem → Option ρ} (F : FP own idx ci k .int) (hc : L[t]? = some (.inl (ci, sp))) (hk : sp[k]? = some 0) (hd : decode b pc = .ok (.putfield idx, 3)) (h : bnd (wr M t k x) f = some res) (kk : ∀ M1 : Mem, f M1 = some res → G L X Γ nL Q pn lv st M1) : G L X Γ nL Q pc lv (.int x :: .ref (X.2.2.2.1 t) :: st) M := by
  subst hp
  exact g_put K rfl F hc hk (Nat.le_of_ble_eq_true rfl) (by show Value.int (upd (M t) k x k) = _; rw [upd_at]) rfl rfl hd (kk _ h)
theorem g_putz (K : Kx L X Γ own b nL d ret) {pn : Nat} (hp : pc + 3 = pn) {idx ci k t : Nat} {sp : List Nat} {x : Int32} {ρ : Type} {res : ρ} {f : Mem → Option ρ} (F : FP own idx ci k .boolean) (hc : L[t]? = some (.inl (ci, sp))) (hk : sp[k]? = some 0) (hx : narrow .boolean (.int x) = .int x) (hf : fits .boolean (.int x) = true) (hd : decode b pc = .ok (.putfield idx, 3)) (h : bnd (wr M t k x) f = some res) (kk : ∀ M1 : Mem, f M1 = some res → G L X Γ nL Q pn lv st M1) : G L X Γ nL Q pc lv (.int x :: .ref (X.2.2.2.1 t) :: st) M := by
  subst hp
  exact g_put K rfl F hc hk (Nat.le_of_ble_eq_true rfl) (by show Value.int (upd (M t) k x k) = _; rw [upd_at]) hx hf hd (kk _ h)
theorem g_putl (K : Kx L X Γ own b nL d ret) {pn : Nat} (hp : pc + 3 = pn) {idx ci k t : Nat} {sp : List Nat} {x : Int64} {ρ : Type} {res : ρ} {f : Mem → Option ρ} (F : FP own idx ci k .long) (hc : L[t]? = some (.inl (ci, sp))) (hk : sp[k]? = some 1) (hd : decode b pc = .ok (.putfield idx, 3)) (h : rq (x.toInt32.toInt64 = x) (bnd (wr M t k x.toInt32) f) = some res) (kk : ∀ M1 : Mem, f M1 = some res → G L X Γ nL Q pn lv st M1) : G L X Γ nL Q pc lv (.long x :: .ref (X.2.2.2.1 t) :: st) M := by
  subst hp
  obtain ⟨e, h⟩ := rq_e h
  exact g_put K rfl F hc hk (Nat.le_of_ble_eq_true rfl) (by show Value.long (upd (M t) k x.toInt32 k).toInt64 = _; rw [upd_at, e]) rfl rfl hd (kk _ h)
theorem g_iald (K : Kx L X Γ own b nL d ret) {pn : Nat} (hp : pc + 1 = pn) {t n : Nat} {ch : Nat → Nat} {i : Int32} {ρ : Type} {res : ρ} {A : Option ρ} (hc : L[t]? = some (.inr (0, n, ch))) (hd : decode b pc = .ok (.iaload, 1)) (h : ck i n A = some res) (kk : A = some res → G L X Γ nL Q pn lv (.int (M t i.toNatClampNeg) :: st) M) : G L X Γ nL Q pc lv (.int i :: .ref (X.2.2.2.1 t) :: st) M := by
  subst hp
  exact fun H locs ls hl hP hS => va_iald K.ex K.cd K.kk hP t 0 (wsO_at hc) (show (tysO X.2.2.1)[0]? = some (X.2.2.1 0, _) from rfl) (ck_e h).1 hd (kk (ck_e h).2 H locs ls hl hP hS)
theorem g_zald (K : Kx L X Γ own b nL d ret) {pn : Nat} (hp : pc + 1 = pn) {t n : Nat} {ch : Nat → Nat} {i : Int32} {ρ : Type} {res : ρ} {A : Option ρ} (hc : L[t]? = some (.inr (1, n, ch))) (hd : decode b pc = .ok (.baload, 1)) (h : ck i n A = some res) (kk : A = some res → G L X Γ nL Q pn lv (.int (M t i.toNatClampNeg) :: st) M) : G L X Γ nL Q pc lv (.int i :: .ref (X.2.2.2.1 t) :: st) M := by
  subst hp
  exact fun H locs ls hl hP hS => va_zald K.ex K.cd K.kk hP t 1 (wsO_at hc) (show (tysO X.2.2.1)[1]? = some (X.2.2.1 1, _) from rfl) (ck_e h).1 hd (kk (ck_e h).2 H locs ls hl hP hS)
theorem g_iast (K : Kx L X Γ own b nL d ret) {pn : Nat} (hp : pc + 1 = pn) {t n : Nat} {ch : Nat → Nat} {i x : Int32} {ρ : Type} {res : ρ} {f : Mem → Option ρ} (hc : L[t]? = some (.inr (0, n, ch))) (hd : decode b pc = .ok (.iastore, 1)) (h : ck i n (bnd (wr M t i.toNatClampNeg x) f) = some res) (kk : ∀ M1 : Mem, f M1 = some res → G L X Γ nL Q pn lv st M1) : G L X Γ nL Q pc lv (.int x :: .int i :: .ref (X.2.2.2.1 t) :: st) M := by
  subst hp
  exact fun H locs ls hl hP hS => va_iast K.ex K.cd K.kk hP (K.ad.D M) hS t 0 (wsO_at hc) (show (tysO X.2.2.1)[0]? = some (X.2.2.1 0, _) from rfl) (ck_e h).1 hd (fun H1 locs1 hP1 hD1 hS1 => by
      have hc' : L[t]? = some (.inr (0, n, ch)) := hc
      rw [wsO_st hc' (Nat.le_of_ble_eq_true rfl)] at hP1
      exact kk _ (ck_e h).2 H1 locs1 ls hl hP1 hS1)
theorem g_zast (K : Kx L X Γ own b nL d ret) {pn : Nat} (hp : pc + 1 = pn) {t n : Nat} {ch : Nat → Nat} {i x : Int32} {ρ : Type} {res : ρ} {f : Mem → Option ρ} (hc : L[t]? = some (.inr (1, n, ch))) (hd : decode b pc = .ok (.bastore, 1)) (h : ck i n (bnd (wr M t i.toNatClampNeg (vp_nar .boolean x)) f) = some res) (kk : ∀ M1 : Mem, f M1 = some res → G L X Γ nL Q pn lv st M1) : G L X Γ nL Q pc lv (.int x :: .int i :: .ref (X.2.2.2.1 t) :: st) M := by
  subst hp
  exact fun H locs ls hl hP hS => va_zast K.ex K.cd K.kk hP (K.ad.D M) hS t 1 (wsO_at hc) (show (tysO X.2.2.1)[1]? = some (X.2.2.1 1, _) from rfl) (ck_e h).1 hd (fun H1 locs1 hP1 hD1 hS1 => by
      have hc' : L[t]? = some (.inr (1, n, ch)) := hc
      rw [wsO_st hc' (Nat.le_of_ble_eq_true rfl)] at hP1
      exact kk _ (ck_e h).2 H1 locs1 ls hl hP1 hS1)
theorem g_aald (K : Kx L X Γ own b nL d ret) {pn : Nat} (hp : pc + 1 = pn) {t n ty : Nat} {C : String} {ch : Nat → Nat} {i : Int32} {ρ : Type} {res : ρ} {A : Option ρ} (hc : L[t]? = some (.inr (ty + 2, n, ch))) (hty : (tysO X.2.2.1)[ty + 2]? = some (X.2.2.1 (ty + 2), .object C)) (hd : decode b pc = .ok (.aaload, 1)) (h : ck i n A = some res) (kk : vp_in i n → A = some res → G L X Γ nL Q pn lv (.ref (X.2.2.2.1 (ch i.toNatClampNeg)) :: st) M) : G L X Γ nL Q pc lv (.int i :: .ref (X.2.2.2.1 t) :: st) M := by
  subst hp
  exact fun H locs ls hl hP hS => va_aldq K.ex K.cd K.kk hP t (ty + 2) (wsO_at hc) hty (ck_e h).1 hd (kk (ck_e h).1 (ck_e h).2 H locs ls hl hP hS)
theorem g_alen (K : Kx L X Γ own b nL d ret) {pn : Nat} (hp : pc + 1 = pn) {t n ty : Nat} {ch : Nat → Nat} {v : Int32} {fty : FieldType} (hc : L[t]? = some (.inr (ty, n, ch))) (hty : (tysO X.2.2.1)[ty]? = some (X.2.2.1 ty, fty)) (hv : Int32.ofNat n = v) (hd : decode b pc = .ok (.arraylength, 1)) (kk : G L X Γ nL Q pn lv (.int v :: st) M) : G L X Γ nL Q pc lv (.ref (X.2.2.2.1 t) :: st) M := by
  subst hp
  exact fun H locs ls hl hP hS => va_alen K.ex K.cd K.kk hP t ty (wsO_at hc) hty hv hd (kk H locs ls hl hP hS)
theorem g_gets (K : Kx L X Γ own b nL d ret) {pn : Nat} (hp : pc + 3 = pn) {idx j : Nat} (hj : j < 4) (hw : Cond.fieldLink own idx "BeforeItGoes" (tnm j) "[I" ∈ gt ∨ ∃ host : String, Cond.fieldLinkNest own idx "BeforeItGoes" (tnm j) "[I" host ∈ nw) (hd : decode b pc = .ok (.getstatic idx, 3)) (kk : G L X Γ nL Q pn lv (.ref (X.2.2.2.1 (1000 + j)) :: st) M) : G L X Γ nL Q pc lv st M := by
  subst hp
  intro H locs ls hl hP hS
  rcases hw with hw | ⟨host, hw⟩
  · exact va_gets K.ex K.cd (K.sta.1 j hj).1 hS K.ow (K.ts _ hw) (fun _ h => h) hd (kk H locs ls hl hP hS)
  · exact va_getsN K.ex K.cd (K.sta.1 j hj).1 hS K.ow (K.nw _ hw) (fun _ h => h) hd (kk H locs ls hl hP hS)
theorem g_tald (K : Kx L X Γ own b nL d ret) {pn : Nat} (hp : pc + 1 = pn) {j n : Nat} {i : Int32} {ρ : Type} {res : ρ} {A : Option ρ} (hj : j < 4) (hn : (tab j).length = n) (hd : decode b pc = .ok (.iaload, 1)) (h : ck i n A = some res) (kk : A = some res → G L X Γ nL Q pn lv (.int (tb j i.toNatClampNeg) :: st) M) : G L X Γ nL Q pc lv (.int i :: .ref (X.2.2.2.1 (1000 + j)) :: st) M := by
  subst hp
  subst hn
  exact fun H locs ls hl hP hS => va_ti K.ex K.cd (K.sta.1 j hj).2 hS (ck_e h).1 rfl hd (kk (ck_e h).2 H locs ls hl hP hS)
theorem g_tlen (K : Kx L X Γ own b nL d ret) {pn : Nat} (hp : pc + 1 = pn) {j : Nat} {v : Int32} (hj : j < 4) (hv : Int32.ofNat (tab j).length = v) (hd : decode b pc = .ok (.arraylength, 1)) (kk : G L X Γ nL Q pn lv (.int v :: st) M) : G L X Γ nL Q pc lv (.ref (X.2.2.2.1 (1000 + j)) :: st) M := by
  subst hp
  exact fun H locs ls hl hP hS => va_tlen K.ex K.cd (K.sta.1 j hj).2 hS hv hd (kk H locs ls hl hP hS)
theorem g_ldcS (K : Kx L X Γ own b nL d ret) {pn : Nat} (hp : pc + 2 = pn) {idx i : Nat} {tx : String} (hi : whS[i]? = some (own, idx, tx)) (hd : decode b pc = .ok (.ldc idx, 2)) (kk : G L X Γ nL Q pn lv (.ref (X.2.2.2.1 (2000 + i)) :: st) M) : G L X Γ nL Q pc lv st M := by
  subst hp
  exact fun H locs ls hl hP hS => va_ldcS K.ex K.cd K.ow (K.sta.2.2.1 i _ hi) hd (kk H locs ls hl hP hS)
theorem g_coder (K : Kx L X Γ own b nL d ret) {pn : Nat} (hp : pc + 3 = pn) {idx i : Nat} (hi : i < nS) (hw : Cond.fieldLink own idx "java/lang/String" "coder" "B" ∈ gt) (hd : decode b pc = .ok (.getfield idx, 3)) (kk : G L X Γ nL Q pn lv (.int 0 :: st) M) : G L X Γ nL Q pc lv (.ref (X.2.2.2.1 (2000 + i)) :: st) M := by
  subst hp
  exact fun H locs ls hl hP hS => vk_getf K.ex K.cd (K.sta.2.1.1 i hi).2.1 hS K.ow (K.ts _ hw) (fun _ h => h) hd (kk H locs ls hl hP hS)
theorem g_value (K : Kx L X Γ own b nL d ret) {pn : Nat} (hp : pc + 3 = pn) {idx i : Nat} (hi : i < nS) (hw : Cond.fieldLink own idx "java/lang/String" "value" "[B" ∈ gt) (hd : decode b pc = .ok (.getfield idx, 3)) (kk : G L X Γ nL Q pn lv (.ref (X.2.2.2.1 (3000 + i)) :: st) M) : G L X Γ nL Q pc lv (.ref (X.2.2.2.1 (2000 + i)) :: st) M := by
  subst hp
  exact fun H locs ls hl hP hS => vk_getf K.ex K.cd (K.sta.2.1.1 i hi).2.2.1 hS K.ow (K.ts _ hw) (fun _ h => h) hd (kk H locs ls hl hP hS)
theorem g_compact (K : Kx L X Γ own b nL d ret) {pn : Nat} (hp : pc + 3 = pn) {idx : Nat} (hw : Cond.fieldLink own idx "java/lang/String" "COMPACT_STRINGS" "Z" ∈ gt) (hd : decode b pc = .ok (.getstatic idx, 3)) (kk : G L X Γ nL Q pn lv (.int 1 :: st) M) : G L X Γ nL Q pc lv st M := by
  subst hp
  exact fun H locs ls hl hP hS => va_gets K.ex K.cd K.sta.2.2.2.1 hS K.ow (K.ts _ hw) (fun _ h => h) hd (kk H locs ls hl hP hS)
theorem g_siobe (K : Kx L X Γ own b nL d ret) {pn : Nat} (hp : pc + 3 = pn) {idx : Nat} (hw : Cond.fieldLink own idx "jdk/internal/util/Preconditions" "SIOOBE_FORMATTER" "Ljava/util/function/BiFunction;" ∈ gt) (hd : decode b pc = .ok (.getstatic idx, 3)) (kk : ∀ v : Value, (v = .null ∨ ∃ t : Nat, v = .ref t) → G L X Γ nL Q pn lv (v :: st) M) : G L X Γ nL Q pc lv st M := by
  subst hp
  rcases K.sta.2.2.2.2.2 with hz | ⟨t, hz⟩
  · exact fun H locs ls hl hP hS => va_gets K.ex K.cd hz hS K.ow (K.ts _ hw) (fun _ h => h) hd (kk _ (Or.inl rfl) H locs ls hl hP hS)
  · exact fun H locs ls hl hP hS => va_gets K.ex K.cd hz hS K.ow (K.ts _ hw) (fun _ h => h) hd (kk _ (Or.inr ⟨t, rfl⟩) H locs ls hl hP hS)
theorem g_bald (K : Kx L X Γ own b nL d ret) {pn : Nat} (hp : pc + 1 = pn) {i n : Nat} {j : Int32} {ρ : Type} {res : ρ} {A : Option ρ} (hi : i < nS) (hn : lenS.getD i 0 = n) (hd : decode b pc = .ok (.baload, 1)) (h : ck j n A = some res) (kk : A = some res → G L X Γ nL Q pn lv (.int ((bytS.getD i []).getD j.toNatClampNeg 0) :: st) M) : G L X Γ nL Q pc lv (.int j :: .ref (X.2.2.2.1 (3000 + i)) :: st) M := by
  subst hp
  subst hn
  exact fun H locs ls hl hP hS => va_tb K.ex K.cd (K.sta.2.1.1 i hi).2.2.2 hS (ck_e h).1 rfl hd (kk (ck_e h).2 H locs ls hl hP hS)
theorem g_blen (K : Kx L X Γ own b nL d ret) {pn : Nat} (hp : pc + 1 = pn) {i : Nat} (hi : i < nS) (hd : decode b pc = .ok (.arraylength, 1)) (kk : G L X Γ nL Q pn lv (.int (nI (lenS.getD i 0)) :: st) M) : G L X Γ nL Q pc lv (.ref (X.2.2.2.1 (3000 + i)) :: st) M := by
  subst hp
  exact fun H locs ls hl hP hS => va_tlen K.ex K.cd (K.sta.2.1.1 i hi).2.2.2 hS rfl hd (kk H locs ls hl hP hS)
theorem pre_blind {av : List Value} : FrameBlind (va_Pc av (Pre L X M)) := by
  intro a U g mk q
  obtain ⟨q0, qP, qK, qS, qA⟩ := q
  exact ⟨q0, qP, va_K.moved (u := U) (U := U.calling g mk a) (Vm.Alike.refl U.vm) qK, St.same (u := U) (U := U.calling g mk a) rfl qS, qA⟩
theorem pre_at (K : Kx L X Γ own b nL d ret) {H : Heap} {locs : List Loc} {av : List Value} (hP : va_P X.2.1 vwCl (wsO L X M) H) (hS : va_S X.2.2.2.2 Γ.2.2.1.heap H locs) : ∀ U : State, U.heap = H → Γ.2.2.1.WarmedH U.vm → va_Pc av (Pre L X M) av.toArray U := by
  intro U hU hW
  refine ⟨rfl, by rw [hU]; exact hP, va_K.moved hW.alike K.kk, ?_, K.ad⟩
  rw [hU]
  exact (K.sta.kept hS.2.1).warm hW
theorem g_run {st0 rest : List Value} {M1 : Mem} {v : Option Value} {a : Array Value} (hr : ∀ (H : Heap) (locs : List Loc) (ls : Array Slot), lv_has ls nL lv → va_P X.2.1 vwCl (wsO L X M) H → va_S X.2.2.2.2 Γ.2.2.1.heap H locs → va_Run Γ.1 X.1 Γ.2.1 Γ.2.2.2.2.2.2.2.2.1 Γ.2.2.1 Γ.2.2.2.1 Γ.2.2.2.2.1 Γ.2.2.2.2.2.1 Γ.2.2.2.2.2.2.1 Γ.2.2.2.2.2.2.2.1 H locs Γ.2.2.2.2.2.2.2.2.2.1 Γ.2.2.2.2.2.2.2.2.2.2 0 0 (F0 Γ.2.2.2.1 pc ls st0) rest (Qo L X v M1 a) X.2.2.2.2) (kk : G L X Γ nL Q (pc + 3) lv (v.toList ++ rest) M1) : G L X Γ nL Q pc lv st0 M := by
  intro H locs ls hl hP hS T hT Xs
  obtain ⟨v', st₀, t, T', Lc, h0, X', hL, e1, e2, ⟨hv, hP1, hz, hk⟩, stp⟩ := hr H locs ls hl hP hS T hT Xs
  cases hv
  rw [h0] at hz hk
  obtain ⟨t2, a1, b1⟩ := kk T'.heap (locs ++ Lc) ls hl (by rw [e1]; exact hP1) ⟨Nat.le_trans hS.1 (by rw [e1]; exact hz), fun q h1 h2 => by rw [e1, hk q (Nat.lt_of_lt_of_le h1 hS.1) h2]; exact hS.2.1 q h1 h2, fun q hq => by
      rcases List.mem_append.mp hq with h | h
      · exact hS.2.2 q h
      · exact hL q h⟩ T' rfl X'
  exact ⟨t2, stp t2 a1, b1⟩
theorem gt_call {y : MethodName} {b' : ByteArray} {n' : Nat} {r' : Option FieldType} (h : Cond.code y b' n' r' ∈ gt) : GoodIn gt (.code y b' n' r' :: gt) := gt_good (fun w hw => (List.mem_cons.mp hw).elim (fun e => e ▸ h) id)
theorem g_callV (K : Kx L X Γ own b nL d ret) {pn : Nat} (hp : pc + 3 = pn) {idx n d' : Nat} {y : MethodName} {b' : ByteArray} {nL' : Nat} {ret' : Option FieldType} {As st0 rest : List Value} {a : Nat} {v : Option Value} {M1 : Mem} (hdd : d' + 1 ≤ d) (V : MV own idx y b' nL' ret' n) (hrc : ∀ (H : Heap) (locs : List Loc), va_P X.2.1 vwCl (wsO L X M) H → va_S X.2.2.2.2 Γ.2.2.1.heap H locs → ∃ cellB : Cell, H[X.2.2.2.1 a]? = some cellB ∧ cellB.vm.isStatics = false ∧ Γ.2.2.1.vm.findClass y.cls = some cellB.cls) (ct : CT L X d' y b' nL' ret' (.ref (X.2.2.2.1 a) :: As) M M1 v) (hn : As.length = n) (hst : st0 = As.reverse ++ .ref (X.2.2.2.1 a) :: rest) (hw : (rest.map fun v => v.category).sum ≤ 8) (hd : decode b pc = .ok (.invokevirtual idx, 3)) (kk : G L X Γ nL Q pn lv (v.toList ++ rest) M1) : G L X Γ nL Q pc lv st0 M := by
  subst hp
  obtain ⟨hl0, hin, hse, hini, hco, hyy, hnl⟩ := V
  have hR : (rm d').frames + 1 ≤ Γ.2.2.2.2.2.2.2.2.1.frames ∧ 8 + (nL' + 11) + (rm d').locals ≤ Γ.2.2.2.2.2.2.2.2.1.locals := ⟨Nat.le_trans hdd K.fr, by have := K.lo; show 8 + (nL' + 11) + 40 * d' ≤ _; omega⟩
  refine g_run (rest := rest) (v := v) (M1 := M1) (a := (Value.ref (X.2.2.2.1 a) :: As).toArray) (fun H locs ls hl hP hS => ?_) kk
  rcases hl0 with hl0 | ⟨host, hl0⟩
  · exact va_runV ⟨K.ex, K.cd, K.ml, K.ow, K.ts⟩ ct (cwV (own := own) (index := idx) (C := y.cls) n K.ts (gt_good (fun w hw => by
        rcases List.mem_append.mp hw with hw | hw
        · simp only [List.mem_cons, List.not_mem_nil, or_false] at hw
          rcases hw with rfl | rfl | rfl | rfl <;> assumption
        · exact (List.mem_cons.mp hw).elim (fun e => e ▸ hco) id)) rfl rfl rfl ⟨rfl, hyy⟩ hR) ⟨pre_blind, hrc H locs hP hS, pre_at K hP hS⟩ rfl hn hl.1 hst (lv_room hw) hd ⟨K.ce, K.sl⟩
  · exact va_runVN ⟨K.ex, K.cd, K.ml, K.ow, K.ts⟩ ct ⟨va_cnB n K.ts (gt_call hco) rfl rfl rfl (va_Nw.of rfl (K.nw _ hl0)) (K.ts _ hini) hyy hR, K.ts _ hin, K.ts _ hse⟩ ⟨pre_blind, hrc H locs hP hS, pre_at K hP hS⟩ rfl hn hl.1 hst (lv_room hw) hd ⟨K.ce, K.sl⟩
theorem recvO (K : Kx L X Γ own b nL d ret) {t ci : Nat} {sp : List Nat} {q : vw_C} (hc : L[t]? = some (.inl (ci, sp))) (hq : vwCl[ci]? = some q) : ∀ (H : Heap) (locs : List Loc), va_P X.2.1 vwCl (wsO L X M) H → va_S X.2.2.2.2 Γ.2.2.1.heap H locs → ∃ cellB : Cell, H[X.2.2.2.1 t]? = some cellB ∧ cellB.vm.isStatics = false ∧ Γ.2.2.1.vm.findClass q.1 = some cellB.cls := fun H locs hP hS => va_recv K.kk hP hq (wsO_at hc)
theorem recvS (K : Kx L X Γ own b nL d ret) {i : Nat} (hi : i < nS) : ∀ (H : Heap) (locs : List Loc), va_P X.2.1 vwCl (wsO L X M) H → va_S X.2.2.2.2 Γ.2.2.1.heap H locs → ∃ cellB : Cell, H[X.2.2.2.1 (2000 + i)]? = some cellB ∧ cellB.vm.isStatics = false ∧ Γ.2.2.1.vm.findClass "java/lang/String" = some cellB.cls := fun H locs hP hS => vk_recv (adK := fun i => X.2.2.2.1 (2000 + i)) (i := i) K.sta.2.1 hi hS
theorem g_callS (K : Kx L X Γ own b nL d ret) {pn : Nat} (hp : pc + 3 = pn) {idx n d' : Nat} {y : MethodName} {b' : ByteArray} {nL' : Nat} {ret' : Option FieldType} {As st0 rest : List Value} {v : Option Value} {M1 : Mem} (hdd : d' + 1 ≤ d) (V : MS own idx y b' nL' ret' n) (ct : CT L X d' y b' nL' ret' As M M1 v) (hn : As.length = n) (hst : st0 = As.reverse ++ rest) (hw : (rest.map fun v => v.category).sum ≤ 8) (hd : decode b pc = .ok (.invokestatic idx, 3)) (kk : G L X Γ nL Q pn lv (v.toList ++ rest) M1) : G L X Γ nL Q pc lv st0 M := by
  subst hp
  obtain ⟨hl0, hsa, hini, hco, hyy, hnl⟩ := V
  have hR : (rm d').frames + 1 ≤ Γ.2.2.2.2.2.2.2.2.1.frames ∧ 8 + (nL' + 11) + (rm d').locals ≤ Γ.2.2.2.2.2.2.2.2.1.locals := ⟨Nat.le_trans hdd K.fr, by have := K.lo; show 8 + (nL' + 11) + 40 * d' ≤ _; omega⟩
  refine g_run (rest := rest) (v := v) (M1 := M1) (a := As.toArray) (fun H locs ls hl hP hS => ?_) kk
  rcases hl0 with hl0 | ⟨host, hl0⟩
  · exact va_runS ⟨K.ex, K.cd, K.ml, K.ow, K.ts⟩ ct (va_cwS (own := own) (index := idx) n K.ts (gt_good (fun w hw => by
        rcases List.mem_append.mp hw with hw | hw
        · simp only [List.mem_cons, List.not_mem_nil, or_false] at hw
          rcases hw with rfl | rfl | rfl <;> assumption
        · exact (List.mem_cons.mp hw).elim (fun e => e ▸ hco) id)) rfl rfl rfl hyy hR) ⟨pre_blind, pre_at K hP hS⟩ rfl hn hl.1 hst (lv_room hw) hd ⟨K.ce, K.sl⟩
  · exact va_runSN ⟨K.ex, K.cd, K.ml, K.ow, K.ts⟩ ct ⟨va_cnB n K.ts (gt_call hco) rfl rfl rfl (va_Nw.of rfl (K.nw _ hl0)) (K.ts _ hini) hyy hR, K.ts _ hsa, trivial⟩ ⟨pre_blind, pre_at K hP hS⟩ rfl hn hl.1 hst (lv_room hw) hd ⟨K.ce, K.sl⟩
theorem g_callV1 (K : Kx L X Γ own b nL d ret) {pn : Nat} (hp : pc + 3 = pn) {idx n d' : Nat} {y : MethodName} {b' : ByteArray} {nL' : Nat} {ret' : Option FieldType} {As st0 rest : List Value} {a : Nat} {w : Value} {M1 : Mem} (hdd : d' + 1 ≤ d) (V : MV own idx y b' nL' ret' n) (hrc : ∀ (H : Heap) (locs : List Loc), va_P X.2.1 vwCl (wsO L X M) H → va_S X.2.2.2.2 Γ.2.2.1.heap H locs → ∃ cellB : Cell, H[X.2.2.2.1 a]? = some cellB ∧ cellB.vm.isStatics = false ∧ Γ.2.2.1.vm.findClass y.cls = some cellB.cls) (ct : CT L X d' y b' nL' ret' (.ref (X.2.2.2.1 a) :: As) M M1 (some w)) (hn : As.length = n) (hst : st0 = As.reverse ++ .ref (X.2.2.2.1 a) :: rest) (hw : (rest.map fun v => v.category).sum ≤ 8) (hd : decode b pc = .ok (.invokevirtual idx, 3)) (kk : G L X Γ nL Q pn lv (w :: rest) M1) : G L X Γ nL Q pc lv st0 M := by
  subst hp
  exact g_callV K rfl hdd V hrc ct hn hst hw hd kk
theorem g_callV0 (K : Kx L X Γ own b nL d ret) {pn : Nat} (hp : pc + 3 = pn) {idx n d' : Nat} {y : MethodName} {b' : ByteArray} {nL' : Nat} {ret' : Option FieldType} {As st0 rest : List Value} {a : Nat}  {M1 : Mem} (hdd : d' + 1 ≤ d) (V : MV own idx y b' nL' ret' n) (hrc : ∀ (H : Heap) (locs : List Loc), va_P X.2.1 vwCl (wsO L X M) H → va_S X.2.2.2.2 Γ.2.2.1.heap H locs → ∃ cellB : Cell, H[X.2.2.2.1 a]? = some cellB ∧ cellB.vm.isStatics = false ∧ Γ.2.2.1.vm.findClass y.cls = some cellB.cls) (ct : CT L X d' y b' nL' ret' (.ref (X.2.2.2.1 a) :: As) M M1 none) (hn : As.length = n) (hst : st0 = As.reverse ++ .ref (X.2.2.2.1 a) :: rest) (hw : (rest.map fun v => v.category).sum ≤ 8) (hd : decode b pc = .ok (.invokevirtual idx, 3)) (kk : G L X Γ nL Q pn lv rest M1) : G L X Γ nL Q pc lv st0 M := by
  subst hp
  exact g_callV K rfl hdd V hrc ct hn hst hw hd kk
theorem g_callS1 (K : Kx L X Γ own b nL d ret) {pn : Nat} (hp : pc + 3 = pn) {idx n d' : Nat} {y : MethodName} {b' : ByteArray} {nL' : Nat} {ret' : Option FieldType} {As st0 rest : List Value}  {w : Value} {M1 : Mem} (hdd : d' + 1 ≤ d) (V : MS own idx y b' nL' ret' n)  (ct : CT L X d' y b' nL' ret' As M M1 (some w)) (hn : As.length = n) (hst : st0 = As.reverse ++ rest) (hw : (rest.map fun v => v.category).sum ≤ 8) (hd : decode b pc = .ok (.invokestatic idx, 3)) (kk : G L X Γ nL Q pn lv (w :: rest) M1) : G L X Γ nL Q pc lv st0 M := by
  subst hp
  exact g_callS K rfl hdd V  ct hn hst hw hd kk
theorem g_callS0 (K : Kx L X Γ own b nL d ret) {pn : Nat} (hp : pc + 3 = pn) {idx n d' : Nat} {y : MethodName} {b' : ByteArray} {nL' : Nat} {ret' : Option FieldType} {As st0 rest : List Value}   {M1 : Mem} (hdd : d' + 1 ≤ d) (V : MS own idx y b' nL' ret' n)  (ct : CT L X d' y b' nL' ret' As M M1 none) (hn : As.length = n) (hst : st0 = As.reverse ++ rest) (hw : (rest.map fun v => v.category).sum ≤ 8) (hd : decode b pc = .ok (.invokestatic idx, 3)) (kk : G L X Γ nL Q pn lv rest M1) : G L X Γ nL Q pc lv st0 M := by
  subst hp
  exact g_callS K rfl hdd V  ct hn hst hw hd kk
theorem g_mmax (K : Kx L X Γ own b nL d ret) {pn : Nat} (hp : pc + 3 = pn) {idx : Nat} {x y : Int32} (hdd : 1 ≤ d) (h1 : Cond.methodLink own idx Lib.Math.max.name ∈ gt) (h2 : Cond.static Lib.Math.max.name ∈ gt) (h3 : Cond.initialized "java/lang/Math" ∈ gt) (h4 : Cond.code Lib.Math.max.name Lib.Math.max.code 2 (some .int) ∈ gt) (hw : (st.map fun v => v.category).sum ≤ 8) (hd : decode b pc = .ok (.invokestatic idx, 3)) (kk : G L X Γ nL Q pn lv (.int (imax x y) :: st) M) : G L X Γ nL Q pc lv (.int y :: .int x :: st) M := by
  subst hp
  exact fun H locs ls hl hP hS => va_mmax K.ex K.cd (K.ml.trans hl.1.symm) K.ow (K.ts _ h1) (K.ts _ h2) (K.ts _ h3) (K.ts _ h4) (Nat.le_trans hdd K.fr) (by have := K.lo; omega) K.ce K.sl hd (kk H locs ls hl hP hS)
theorem g_mmin (K : Kx L X Γ own b nL d ret) {pn : Nat} (hp : pc + 3 = pn) {idx : Nat} {x y : Int32} (hdd : 1 ≤ d) (h1 : Cond.methodLink own idx Lib.Math.min.name ∈ gt) (h2 : Cond.static Lib.Math.min.name ∈ gt) (h3 : Cond.initialized "java/lang/Math" ∈ gt) (h4 : Cond.code Lib.Math.min.name Lib.Math.min.code 2 (some .int) ∈ gt) (hw : (st.map fun v => v.category).sum ≤ 8) (hd : decode b pc = .ok (.invokestatic idx, 3)) (kk : G L X Γ nL Q pn lv (.int (imin x y) :: st) M) : G L X Γ nL Q pc lv (.int y :: .int x :: st) M := by
  subst hp
  exact fun H locs ls hl hP hS => va_mmin K.ex K.cd (K.ml.trans hl.1.symm) K.ow (K.ts _ h1) (K.ts _ h2) (K.ts _ h3) (K.ts _ h4) (Nat.le_trans hdd K.fr) (by have := K.lo; omega) K.ce K.sl hd (kk H locs ls hl hP hS)
theorem g_copy (K : Kx L X Γ own b nL d ret) {idx t0 t1 n0 n1 : Nat} {ch0 ch1 : Nat → Nat} {sp dp n : Int32} {ρ : Type} {res : ρ} {f : Mem → Option ρ} (hdd : 2 ≤ d) (h1 : Cond.methodLink own idx arraycopyName ∈ gt) (h2 : Cond.native arraycopyName ∈ gt) (h3 : Cond.static arraycopyName ∈ gt) (h4 : Cond.initialized "java/lang/System" ∈ gt) (hc0 : L[t0]? = some (.inr (0, n0, ch0))) (hc1 : L[t1]? = some (.inr (0, n1, ch1))) (hw : (st.map fun v => v.category).sum ≤ 8) (hd : decode b pc = .ok (.invokestatic idx, 3))
    (h : rq (¬ sp < 0 ∧ ¬ dp < 0 ∧ ¬ n < 0 ∧ sp.toNatClampNeg + n.toNatClampNeg ≤ n0 ∧ dp.toNatClampNeg + n.toNatClampNeg ≤ n1) (bnd (wrA M t1 (va_cpy (M t0) (M t1) sp.toNatClampNeg dp.toNatClampNeg n.toNatClampNeg)) f) = some res) (kk : ∀ M1 : Mem, f M1 = some res → G L X Γ nL Q (pc + 3) lv st M1) : G L X Γ nL Q pc lv (.int n :: .int dp :: .ref (X.2.2.2.1 t1) :: .int sp :: .ref (X.2.2.2.1 t0) :: st) M := by
  obtain ⟨⟨g1, g2, g3, g4, g5⟩, h⟩ := rq_e h
  have hnl : (st.map fun v => v.category).sum + (nativeFrameWords "java/lang/System" "arraycopy" 5 + 11) ≤ Γ.2.2.2.2.2.2.2.2.1.locals := by
    have e8 := K.lo
    have e9 : nativeFrameWords "java/lang/System" "arraycopy" 5 ≤ 50 := by decide
    omega
  intro H locs ls hl hP hS
  refine va_copyi K.ex K.cd (K.ml.trans hl.1.symm) K.ow (K.ts _ h1) (K.ts _ h2) (K.ts _ h3) (K.ts _ h4) K.kk hP (K.ad.D M) hS t0 t1 0 0 (wsO_at hc0) (wsO_at hc1) (ty := .int) rfl rfl rfl g1 g2 g3 g4 g5 (fun _ _ => rfl) (Nat.le_trans (Nat.le_trans (by omega) hdd) K.fr) hnl hd (fun H1 locs1 hP1 hD1 hS1 => ?_)
  rw [wsO_stA hc1 (Nat.le_of_ble_eq_true rfl)] at hP1
  exact kk _ h H1 locs1 ls hl hP1 hS1
theorem oi {α : Type} {a b : α} (h : some a = some b) : a = b := Option.some.inj h
theorem oi2 {α β : Type} {a b : α} {c d : β} (h : some (a, c) = some (b, d)) : a = b ∧ c = d := by cases h; exact ⟨rfl, rfl⟩
def oc {α β : Type} (x : Option α) (n : β) (f : α → β) : β := match x with
  | none => n
  | some a => f a
theorem ckI {β : Type} {i : Int32} {n : Nat} {x : Option β} {r : β} (h : ck i n x = some r) : vp_in i n := (ck_e h).1
theorem oc_n {α β : Type} {A r : β} {F : α → β} (h : oc none A F = r) : A = r := h
theorem oc_s {α β : Type} {a : α} {A r : β} {F : α → β} (h : oc (some a) A F = r) : F a = r := h
theorem bq0 {r : Bool} (h : false = r) : (0 : Int32) = b2i r := by subst h; rfl
theorem bq1 {r : Bool} (h : true = r) : (1 : Int32) = b2i r := by subst h; rfl
theorem bqz {z r : Bool} (h : z = r) : b2i z = b2i r := by subst h; rfl
theorem ob_n {α β : Type} (k : α → Option β) : ob none k = none := rfl
theorem ob_s {α β : Type} (a : α) (k : α → Option β) : ob (some a) k = k a := rfl
theorem ob2_s {α γ β : Type} (a : α) (c : γ) (k : α → γ → Option β) : ob2 (some (a, c)) k = k a c := rfl
def rv (ad : Nat → Nat) (r : Option Nat) : Value := match r with
  | none => .null
  | some c => .ref (ad c)
theorem jp_e1 {α1 ρ : Type} {res : ρ} {k : α1 → Option ρ} {f : (α1 → Option ρ) → Option ρ} {C : Prop} (h : jp k f = some res) (P : α1 → Prop) (hk : ∀ (a1 : α1), k a1 = some res → P a1) (hf : ∀ j : α1 → Option ρ, (∀ (a1 : α1), j a1 = some res → P a1) → f j = some res → C) : C := hf k hk h
theorem jp_e2 {α1 α2 ρ : Type} {res : ρ} {k : α1 → α2 → Option ρ} {f : (α1 → α2 → Option ρ) → Option ρ} {C : Prop} (h : jp k f = some res) (P : α1 → α2 → Prop) (hk : ∀ (a1 : α1) (a2 : α2), k a1 a2 = some res → P a1 a2) (hf : ∀ j : α1 → α2 → Option ρ, (∀ (a1 : α1) (a2 : α2), j a1 a2 = some res → P a1 a2) → f j = some res → C) : C := hf k hk h
theorem jp_e3 {α1 α2 α3 ρ : Type} {res : ρ} {k : α1 → α2 → α3 → Option ρ} {f : (α1 → α2 → α3 → Option ρ) → Option ρ} {C : Prop} (h : jp k f = some res) (P : α1 → α2 → α3 → Prop) (hk : ∀ (a1 : α1) (a2 : α2) (a3 : α3), k a1 a2 a3 = some res → P a1 a2 a3) (hf : ∀ j : α1 → α2 → α3 → Option ρ, (∀ (a1 : α1) (a2 : α2) (a3 : α3), j a1 a2 a3 = some res → P a1 a2 a3) → f j = some res → C) : C := hf k hk h
theorem jp_e4 {α1 α2 α3 α4 ρ : Type} {res : ρ} {k : α1 → α2 → α3 → α4 → Option ρ} {f : (α1 → α2 → α3 → α4 → Option ρ) → Option ρ} {C : Prop} (h : jp k f = some res) (P : α1 → α2 → α3 → α4 → Prop) (hk : ∀ (a1 : α1) (a2 : α2) (a3 : α3) (a4 : α4), k a1 a2 a3 a4 = some res → P a1 a2 a3 a4) (hf : ∀ j : α1 → α2 → α3 → α4 → Option ρ, (∀ (a1 : α1) (a2 : α2) (a3 : α3) (a4 : α4), j a1 a2 a3 a4 = some res → P a1 a2 a3 a4) → f j = some res → C) : C := hf k hk h
theorem jp_e5 {α1 α2 α3 α4 α5 ρ : Type} {res : ρ} {k : α1 → α2 → α3 → α4 → α5 → Option ρ} {f : (α1 → α2 → α3 → α4 → α5 → Option ρ) → Option ρ} {C : Prop} (h : jp k f = some res) (P : α1 → α2 → α3 → α4 → α5 → Prop) (hk : ∀ (a1 : α1) (a2 : α2) (a3 : α3) (a4 : α4) (a5 : α5), k a1 a2 a3 a4 a5 = some res → P a1 a2 a3 a4 a5) (hf : ∀ j : α1 → α2 → α3 → α4 → α5 → Option ρ, (∀ (a1 : α1) (a2 : α2) (a3 : α3) (a4 : α4) (a5 : α5), j a1 a2 a3 a4 a5 = some res → P a1 a2 a3 a4 a5) → f j = some res → C) : C := hf k hk h
theorem jp_e6 {α1 α2 α3 α4 α5 α6 ρ : Type} {res : ρ} {k : α1 → α2 → α3 → α4 → α5 → α6 → Option ρ} {f : (α1 → α2 → α3 → α4 → α5 → α6 → Option ρ) → Option ρ} {C : Prop} (h : jp k f = some res) (P : α1 → α2 → α3 → α4 → α5 → α6 → Prop) (hk : ∀ (a1 : α1) (a2 : α2) (a3 : α3) (a4 : α4) (a5 : α5) (a6 : α6), k a1 a2 a3 a4 a5 a6 = some res → P a1 a2 a3 a4 a5 a6) (hf : ∀ j : α1 → α2 → α3 → α4 → α5 → α6 → Option ρ, (∀ (a1 : α1) (a2 : α2) (a3 : α3) (a4 : α4) (a5 : α5) (a6 : α6), j a1 a2 a3 a4 a5 a6 = some res → P a1 a2 a3 a4 a5 a6) → f j = some res → C) : C := hf k hk h
theorem jp_e7 {α1 α2 α3 α4 α5 α6 α7 ρ : Type} {res : ρ} {k : α1 → α2 → α3 → α4 → α5 → α6 → α7 → Option ρ} {f : (α1 → α2 → α3 → α4 → α5 → α6 → α7 → Option ρ) → Option ρ} {C : Prop} (h : jp k f = some res) (P : α1 → α2 → α3 → α4 → α5 → α6 → α7 → Prop) (hk : ∀ (a1 : α1) (a2 : α2) (a3 : α3) (a4 : α4) (a5 : α5) (a6 : α6) (a7 : α7), k a1 a2 a3 a4 a5 a6 a7 = some res → P a1 a2 a3 a4 a5 a6 a7) (hf : ∀ j : α1 → α2 → α3 → α4 → α5 → α6 → α7 → Option ρ, (∀ (a1 : α1) (a2 : α2) (a3 : α3) (a4 : α4) (a5 : α5) (a6 : α6) (a7 : α7), j a1 a2 a3 a4 a5 a6 a7 = some res → P a1 a2 a3 a4 a5 a6 a7) → f j = some res → C) : C := hf k hk h
theorem g_iret (K : Kx L X Γ own b nL d (some .int)) {r r' : Int32} {M' : Mem}  (hd : decode b pc = .ok (.ireturn, 1)) (hr : r = r') (hM : M = M') : G L X Γ nL (QM L X Γ (some (.int r')) M') pc lv [.int r] M := by
  subst hr
  subst hM
  exact fun H locs ls hl hP hS => W.iret K.ex K.cd K.rt  (fun t ht hW => ⟨rfl, by rw [ht]; exact hP, hS.F ht⟩) hS.2.2 hd K.lk
theorem g_lret (K : Kx L X Γ own b nL d (some .long)) {r r' : Int64} {M' : Mem}  (hd : decode b pc = .ok (.lreturn, 1)) (hr : r = r') (hM : M = M') : G L X Γ nL (QM L X Γ (some (.long r')) M') pc lv [.long r] M := by
  subst hr
  subst hM
  exact fun H locs ls hl hP hS => W.lret K.ex K.cd K.rt  (fun t ht hW => ⟨rfl, by rw [ht]; exact hP, hS.F ht⟩) hS.2.2 hd K.lk
theorem g_zret {ty : FieldType} (K : Kx L X Γ own b nL d (some ty)) {x x' : Int32} {M' : Mem} (hn : narrow ty (.int x) = .int x) (hd : decode b pc = .ok (.ireturn, 1)) (hr : x = x') (hM : M = M') : G L X Γ nL (QM L X Γ (some (.int x')) M') pc lv [.int x] M := by
  subst hr
  subst hM
  exact fun H locs ls hl hP hS => W.zret K.ex K.cd K.rt hn (fun t ht hW => ⟨rfl, by rw [ht]; exact hP, hS.F ht⟩) hS.2.2 hd K.lk
theorem narrow_b2i (z : Bool) : narrow .boolean (.int (b2i z)) = .int (b2i z) := by cases z <;> rfl
theorem g_vret (K : Kx L X Γ own b nL d none) {M' : Mem} (hd : decode b pc = .ok (.return_, 1)) (hM : M = M') : G L X Γ nL (QM L X Γ none M') pc lv [] M := by
  subst hM
  exact fun H locs ls hl hP hS => W.vret K.ex K.cd K.rt (fun t ht hW => ⟨rfl, by rw [ht]; exact hP, hS.F ht⟩) hS.2.2 hd K.lk
theorem g_aret {rt : FieldType} (K : Kx L X Γ own b nL d (some rt)) {v v' : Value} {M' : Mem} (hrt : (∃ n, rt = .object n) ∨ ∃ t, rt = .array t) (hv : v = .null ∨ ∃ a, v = .ref a) (hd : decode b pc = .ok (.areturn, 1)) (hr : v = v') (hM : M = M') : G L X Γ nL (QM L X Γ (some v') M') pc lv [v] M := by
  subst hr
  subst hM
  exact fun H locs ls hl hP hS => W.aret K.ex K.cd K.rt hrt hv (fun t ht hW => ⟨rfl, by rw [ht]; exact hP, hS.F ht⟩) hS.2.2 hd K.lk
end ROWS
end
section
/-! layouts, constants, words of the tables: printed by facts.py -/
def layX : List LD := [.inl (7, [3, 9, 0, 15, 20, 24, 0, 25, 42, 43]), .inl (4, [4, 5, 6, 7, 8, 0, 0]), .inr (0, 6, fun _ => 0), .inr (0, 6, fun _ => 0), .inr (0, 6, fun _ => 0), .inr (0, 6, fun _ => 0), .inr (0, 6, fun _ => 0), .inl (4, [10, 11, 12, 13, 14, 0, 0]), .inr (0, 6, fun _ => 0), .inr (0, 6, fun _ => 0), .inr (0, 6, fun _ => 0), .inr (0, 6, fun _ => 0), .inr (0, 6, fun _ => 0), .inl (5, [16, 0, 17, 18, 19, 0]), .inr (0, 160, fun _ => 0), .inr (0, 161, fun _ => 0), .inr (0, 161, fun _ => 0), .inr (0, 161, fun _ => 0), .inl (2, [15, 21, 0, 0, 0]), .inl (6, [22, 23, 0]), .inr (0, 160, fun _ => 0), .inr (0, 4, fun _ => 0), .inr (2, 6, fun i => 42 + 3 * i), .inl (0, [26, 24, 32, 33, 34, 35, 36, 37, 38, 39, 40, 41, 0, 0, 0, 0, 0]), .inl (4, [27, 28, 29, 30, 31, 0, 0]), .inr (0, 6, fun _ => 0), .inr (0, 6, fun _ => 0), .inr (0, 6, fun _ => 0), .inr (0, 6, fun _ => 0), .inr (0, 6, fun _ => 0), .inr (0, 160, fun _ => 0), .inr (0, 6, fun _ => 0), .inr (0, 6, fun _ => 0), .inr (0, 6, fun _ => 0), .inr (0, 6, fun _ => 0), .inr (0, 6, fun _ => 0), .inr (0, 6, fun _ => 0), .inr (0, 6, fun _ => 0), .inr (0, 6, fun _ => 0), .inr (0, 6, fun _ => 0), .inl (1, [0, 0, 0, 0]), .inr (3, 4, fun i => 60 + 2 * i), .inl (6, [45, 46, 0]), .inr (0, 160, fun _ => 0), .inr (0, 4, fun _ => 0), .inl (6, [48, 49, 0]), .inr (0, 160, fun _ => 0), .inr (0, 4, fun _ => 0), .inl (6, [51, 52, 0]), .inr (0, 160, fun _ => 0), .inr (0, 4, fun _ => 0), .inl (6, [54, 55, 0]), .inr (0, 160, fun _ => 0), .inr (0, 4, fun _ => 0), .inl (6, [57, 58, 0]), .inr (0, 160, fun _ => 0), .inr (0, 4, fun _ => 0), .inl (6, [60, 61, 0]), .inr (0, 160, fun _ => 0), .inr (0, 4, fun _ => 0), .inl (3, [63, 0, 0]), .inr (0, 40, fun _ => 0), .inl (3, [65, 0, 0]), .inr (0, 40, fun _ => 0), .inl (3, [67, 0, 0]), .inr (0, 40, fun _ => 0), .inl (3, [69, 0, 0]), .inr (0, 40, fun _ => 0)]
theorem lx_0 : layX[0]? = some (.inl (7, [3, 9, 0, 15, 20, 24, 0, 25, 42, 43])) := rfl
theorem lx_1 : layX[1]? = some (.inl (4, [4, 5, 6, 7, 8, 0, 0])) := rfl
theorem lx_2 : layX[2]? = some (.inr (0, 6, fun _ => 0)) := rfl
theorem lx_3 : layX[3]? = some (.inr (0, 6, fun _ => 0)) := rfl
theorem lx_4 : layX[4]? = some (.inr (0, 6, fun _ => 0)) := rfl
theorem lx_5 : layX[5]? = some (.inr (0, 6, fun _ => 0)) := rfl
theorem lx_6 : layX[6]? = some (.inr (0, 6, fun _ => 0)) := rfl
theorem lx_7 : layX[7]? = some (.inl (4, [10, 11, 12, 13, 14, 0, 0])) := rfl
theorem lx_8 : layX[8]? = some (.inr (0, 6, fun _ => 0)) := rfl
theorem lx_9 : layX[9]? = some (.inr (0, 6, fun _ => 0)) := rfl
theorem lx_10 : layX[10]? = some (.inr (0, 6, fun _ => 0)) := rfl
theorem lx_11 : layX[11]? = some (.inr (0, 6, fun _ => 0)) := rfl
theorem lx_12 : layX[12]? = some (.inr (0, 6, fun _ => 0)) := rfl
theorem lx_13 : layX[13]? = some (.inl (5, [16, 0, 17, 18, 19, 0])) := rfl
theorem lx_14 : layX[14]? = some (.inr (0, 160, fun _ => 0)) := rfl
theorem lx_15 : layX[15]? = some (.inr (0, 161, fun _ => 0)) := rfl
theorem lx_16 : layX[16]? = some (.inr (0, 161, fun _ => 0)) := rfl
theorem lx_17 : layX[17]? = some (.inr (0, 161, fun _ => 0)) := rfl
theorem lx_18 : layX[18]? = some (.inl (2, [15, 21, 0, 0, 0])) := rfl
theorem lx_19 : layX[19]? = some (.inl (6, [22, 23, 0])) := rfl
theorem lx_20 : layX[20]? = some (.inr (0, 160, fun _ => 0)) := rfl
theorem lx_21 : layX[21]? = some (.inr (0, 4, fun _ => 0)) := rfl
theorem lx_22 : layX[22]? = some (.inr (2, 6, fun i => 42 + 3 * i)) := rfl
theorem lx_23 : layX[23]? = some (.inl (0, [26, 24, 32, 33, 34, 35, 36, 37, 38, 39, 40, 41, 0, 0, 0, 0, 0])) := rfl
theorem lx_24 : layX[24]? = some (.inl (4, [27, 28, 29, 30, 31, 0, 0])) := rfl
theorem lx_25 : layX[25]? = some (.inr (0, 6, fun _ => 0)) := rfl
theorem lx_26 : layX[26]? = some (.inr (0, 6, fun _ => 0)) := rfl
theorem lx_27 : layX[27]? = some (.inr (0, 6, fun _ => 0)) := rfl
theorem lx_28 : layX[28]? = some (.inr (0, 6, fun _ => 0)) := rfl
theorem lx_29 : layX[29]? = some (.inr (0, 6, fun _ => 0)) := rfl
theorem lx_30 : layX[30]? = some (.inr (0, 160, fun _ => 0)) := rfl
theorem lx_31 : layX[31]? = some (.inr (0, 6, fun _ => 0)) := rfl
theorem lx_32 : layX[32]? = some (.inr (0, 6, fun _ => 0)) := rfl
theorem lx_33 : layX[33]? = some (.inr (0, 6, fun _ => 0)) := rfl
theorem lx_34 : layX[34]? = some (.inr (0, 6, fun _ => 0)) := rfl
theorem lx_35 : layX[35]? = some (.inr (0, 6, fun _ => 0)) := rfl
theorem lx_36 : layX[36]? = some (.inr (0, 6, fun _ => 0)) := rfl
theorem lx_37 : layX[37]? = some (.inr (0, 6, fun _ => 0)) := rfl
theorem lx_38 : layX[38]? = some (.inr (0, 6, fun _ => 0)) := rfl
theorem lx_39 : layX[39]? = some (.inr (0, 6, fun _ => 0)) := rfl
theorem lx_40 : layX[40]? = some (.inl (1, [0, 0, 0, 0])) := rfl
theorem lx_41 : layX[41]? = some (.inr (3, 4, fun i => 60 + 2 * i)) := rfl
theorem lx_42 : layX[42]? = some (.inl (6, [45, 46, 0])) := rfl
theorem lx_43 : layX[43]? = some (.inr (0, 160, fun _ => 0)) := rfl
theorem lx_44 : layX[44]? = some (.inr (0, 4, fun _ => 0)) := rfl
theorem lx_45 : layX[45]? = some (.inl (6, [48, 49, 0])) := rfl
theorem lx_46 : layX[46]? = some (.inr (0, 160, fun _ => 0)) := rfl
theorem lx_47 : layX[47]? = some (.inr (0, 4, fun _ => 0)) := rfl
theorem lx_48 : layX[48]? = some (.inl (6, [51, 52, 0])) := rfl
theorem lx_49 : layX[49]? = some (.inr (0, 160, fun _ => 0)) := rfl
theorem lx_50 : layX[50]? = some (.inr (0, 4, fun _ => 0)) := rfl
theorem lx_51 : layX[51]? = some (.inl (6, [54, 55, 0])) := rfl
theorem lx_52 : layX[52]? = some (.inr (0, 160, fun _ => 0)) := rfl
theorem lx_53 : layX[53]? = some (.inr (0, 4, fun _ => 0)) := rfl
theorem lx_54 : layX[54]? = some (.inl (6, [57, 58, 0])) := rfl
theorem lx_55 : layX[55]? = some (.inr (0, 160, fun _ => 0)) := rfl
theorem lx_56 : layX[56]? = some (.inr (0, 4, fun _ => 0)) := rfl
theorem lx_57 : layX[57]? = some (.inl (6, [60, 61, 0])) := rfl
theorem lx_58 : layX[58]? = some (.inr (0, 160, fun _ => 0)) := rfl
theorem lx_59 : layX[59]? = some (.inr (0, 4, fun _ => 0)) := rfl
theorem lx_60 : layX[60]? = some (.inl (3, [63, 0, 0])) := rfl
theorem lx_61 : layX[61]? = some (.inr (0, 40, fun _ => 0)) := rfl
theorem lx_62 : layX[62]? = some (.inl (3, [65, 0, 0])) := rfl
theorem lx_63 : layX[63]? = some (.inr (0, 40, fun _ => 0)) := rfl
theorem lx_64 : layX[64]? = some (.inl (3, [67, 0, 0])) := rfl
theorem lx_65 : layX[65]? = some (.inr (0, 40, fun _ => 0)) := rfl
theorem lx_66 : layX[66]? = some (.inl (3, [69, 0, 0])) := rfl
theorem lx_67 : layX[67]? = some (.inr (0, 40, fun _ => 0)) := rfl
def layM : List LD := [.inl (8, [0, 3, 4, 0, 0, 5, 0, 6, 7, 8, 9, 10, 0, 0, 0, 0, 0, 0, 0, 0, 0, 0, 0, 0, 1, 0, 0, 0, 11, 0, 12, 13, 14, 15, 16, 17, 18, 0, 0, 0, 0, 0, 0, 0, 0, 19, 20, 0, 0, 21, 22, 23, 24]), .inr (0, 960, fun _ => 0), .inr (0, 6, fun _ => 0), .inr (0, 160, fun _ => 0), .inr (0, 6, fun _ => 0), .inr (0, 6, fun _ => 0), .inr (0, 6, fun _ => 0), .inr (0, 6, fun _ => 0), .inr (0, 6, fun _ => 0), .inr (0, 6, fun _ => 0), .inr (0, 6, fun _ => 0), .inr (0, 6, fun _ => 0), .inr (0, 6, fun _ => 0), .inr (0, 6, fun _ => 0), .inr (0, 6, fun _ => 0), .inr (0, 6, fun _ => 0), .inr (0, 6, fun _ => 0), .inr (0, 6, fun _ => 0), .inr (0, 18, fun _ => 0), .inr (1, 4, fun _ => 0), .inr (0, 4, fun _ => 0), .inr (0, 4, fun _ => 0), .inr (0, 160, fun _ => 0)]
theorem lm_0 : layM[0]? = some (.inl (8, [0, 3, 4, 0, 0, 5, 0, 6, 7, 8, 9, 10, 0, 0, 0, 0, 0, 0, 0, 0, 0, 0, 0, 0, 1, 0, 0, 0, 11, 0, 12, 13, 14, 15, 16, 17, 18, 0, 0, 0, 0, 0, 0, 0, 0, 19, 20, 0, 0, 21, 22, 23, 24])) := rfl
theorem lm_1 : layM[1]? = some (.inr (0, 960, fun _ => 0)) := rfl
theorem lm_2 : layM[2]? = some (.inr (0, 6, fun _ => 0)) := rfl
theorem lm_3 : layM[3]? = some (.inr (0, 160, fun _ => 0)) := rfl
theorem lm_4 : layM[4]? = some (.inr (0, 6, fun _ => 0)) := rfl
theorem lm_5 : layM[5]? = some (.inr (0, 6, fun _ => 0)) := rfl
theorem lm_6 : layM[6]? = some (.inr (0, 6, fun _ => 0)) := rfl
theorem lm_7 : layM[7]? = some (.inr (0, 6, fun _ => 0)) := rfl
theorem lm_8 : layM[8]? = some (.inr (0, 6, fun _ => 0)) := rfl
theorem lm_9 : layM[9]? = some (.inr (0, 6, fun _ => 0)) := rfl
theorem lm_10 : layM[10]? = some (.inr (0, 6, fun _ => 0)) := rfl
theorem lm_11 : layM[11]? = some (.inr (0, 6, fun _ => 0)) := rfl
theorem lm_12 : layM[12]? = some (.inr (0, 6, fun _ => 0)) := rfl
theorem lm_13 : layM[13]? = some (.inr (0, 6, fun _ => 0)) := rfl
theorem lm_14 : layM[14]? = some (.inr (0, 6, fun _ => 0)) := rfl
theorem lm_15 : layM[15]? = some (.inr (0, 6, fun _ => 0)) := rfl
theorem lm_16 : layM[16]? = some (.inr (0, 6, fun _ => 0)) := rfl
theorem lm_17 : layM[17]? = some (.inr (0, 6, fun _ => 0)) := rfl
theorem lm_18 : layM[18]? = some (.inr (0, 18, fun _ => 0)) := rfl
theorem lm_19 : layM[19]? = some (.inr (1, 4, fun _ => 0)) := rfl
theorem lm_20 : layM[20]? = some (.inr (0, 4, fun _ => 0)) := rfl
theorem lm_21 : layM[21]? = some (.inr (0, 4, fun _ => 0)) := rfl
theorem lm_22 : layM[22]? = some (.inr (0, 160, fun _ => 0)) := rfl
def isSite (t : Nat) : Prop := t = 1 ∨ t = 7 ∨ t = 24
def isText (t : Nat) : Prop := t = 19 ∨ ∃ i : Nat, i < 6 ∧ t = 42 + 3 * i
def isSheet (t : Nat) : Prop := ∃ i : Nat, i < 4 ∧ t = 60 + 2 * i
theorem lxSite {t : Nat} (h : isSite t) : layX[t]? = some (.inl (4, [t + 1 + 2, t + 2 + 2, t + 3 + 2, t + 4 + 2, t + 5 + 2, 0, 0])) := by rcases h with rfl | rfl | rfl <;> rfl
theorem lxSite1 {t : Nat} (h : isSite t) : layX[t + 1]? = some (.inr (0, 6, fun _ => 0)) := by rcases h with rfl | rfl | rfl <;> rfl
theorem lxSite2 {t : Nat} (h : isSite t) : layX[t + 2]? = some (.inr (0, 6, fun _ => 0)) := by rcases h with rfl | rfl | rfl <;> rfl
theorem lxSite3 {t : Nat} (h : isSite t) : layX[t + 3]? = some (.inr (0, 6, fun _ => 0)) := by rcases h with rfl | rfl | rfl <;> rfl
theorem lxSite4 {t : Nat} (h : isSite t) : layX[t + 4]? = some (.inr (0, 6, fun _ => 0)) := by rcases h with rfl | rfl | rfl <;> rfl
theorem lxSite5 {t : Nat} (h : isSite t) : layX[t + 5]? = some (.inr (0, 6, fun _ => 0)) := by rcases h with rfl | rfl | rfl <;> rfl
theorem isText_c {P : Nat → Prop} (h0 : P 19) (h1 : P 42) (h2 : P 45) (h3 : P 48) (h4 : P 51) (h5 : P 54) (h6 : P 57) {t : Nat} (h : isText t) : P t := by
  rcases h with rfl | ⟨i, hi, rfl⟩
  · exact h0
  · match i, hi with
    | 0, _ => exact h1
    | 1, _ => exact h2
    | 2, _ => exact h3
    | 3, _ => exact h4
    | 4, _ => exact h5
    | 5, _ => exact h6
theorem lxText {t : Nat} (h : isText t) : layX[t]? = some (.inl (6, [t + 1 + 2, t + 2 + 2, 0])) := isText_c (P := fun t => layX[t]? = some (.inl (6, [t + 1 + 2, t + 2 + 2, 0]))) rfl rfl rfl rfl rfl rfl rfl h
theorem lxText1 {t : Nat} (h : isText t) : layX[t + 1]? = some (.inr (0, 160, fun _ => 0)) := isText_c (P := fun t => layX[t + 1]? = some (.inr (0, 160, fun _ => 0))) rfl rfl rfl rfl rfl rfl rfl h
theorem lxText2 {t : Nat} (h : isText t) : layX[t + 2]? = some (.inr (0, 4, fun _ => 0)) := isText_c (P := fun t => layX[t + 2]? = some (.inr (0, 4, fun _ => 0))) rfl rfl rfl rfl rfl rfl rfl h
theorem isSheet_c {P : Nat → Prop} (h0 : P 60) (h1 : P 62) (h2 : P 64) (h3 : P 66) {t : Nat} (h : isSheet t) : P t := by
  obtain ⟨i, hi, rfl⟩ := h
  match i, hi with
  | 0, _ => exact h0
  | 1, _ => exact h1
  | 2, _ => exact h2
  | 3, _ => exact h3
theorem lxSheet {t : Nat} (h : isSheet t) : layX[t]? = some (.inl (3, [t + 1 + 2, 0, 0])) := isSheet_c (P := fun t => layX[t]? = some (.inl (3, [t + 1 + 2, 0, 0]))) rfl rfl rfl rfl h
theorem lxSheet1 {t : Nat} (h : isSheet t) : layX[t + 1]? = some (.inr (0, 40, fun _ => 0)) := isSheet_c (P := fun t => layX[t + 1]? = some (.inr (0, 40, fun _ => 0))) rfl rfl rfl rfl h
theorem vp_lt {i : Int32} {n : Nat} (h : vp_in i n) : i.toNatClampNeg < n := Nat.not_le.mp fun q => h (Or.inr q)
theorem isText_in {i : Int32} (h : vp_in i 6) : isText (42 + 3 * i.toNatClampNeg) := Or.inr ⟨_, vp_lt h, rfl⟩
theorem isSheet_in {i : Int32} (h : vp_in i 4) : isSheet (60 + 2 * i.toNatClampNeg) := ⟨_, vp_lt h, rfl⟩
theorem ic_m1 : Int32.ofInt (-1) = (-1 : Int32) := by decide
theorem ic_0 : Int32.ofInt 0 = (0 : Int32) := by decide
theorem ic_1 : Int32.ofInt 1 = (1 : Int32) := by decide
theorem ic_2 : Int32.ofInt 2 = (2 : Int32) := by decide
theorem ic_3 : Int32.ofInt 3 = (3 : Int32) := by decide
theorem ic_4 : Int32.ofInt 4 = (4 : Int32) := by decide
theorem ic_5 : Int32.ofInt 5 = (5 : Int32) := by decide
theorem bp_m100 : (Int8.ofInt (-100)).toInt32 = (-100 : Int32) := by decide
theorem bp_m42 : (Int8.ofInt (-42)).toInt32 = (-42 : Int32) := by decide
theorem bp_m16 : (Int8.ofInt (-16)).toInt32 = (-16 : Int32) := by decide
theorem bp_m14 : (Int8.ofInt (-14)).toInt32 = (-14 : Int32) := by decide
theorem bp_m13 : (Int8.ofInt (-13)).toInt32 = (-13 : Int32) := by decide
theorem bp_m12 : (Int8.ofInt (-12)).toInt32 = (-12 : Int32) := by decide
theorem bp_m11 : (Int8.ofInt (-11)).toInt32 = (-11 : Int32) := by decide
theorem bp_m10 : (Int8.ofInt (-10)).toInt32 = (-10 : Int32) := by decide
theorem bp_m6 : (Int8.ofInt (-6)).toInt32 = (-6 : Int32) := by decide
theorem bp_m4 : (Int8.ofInt (-4)).toInt32 = (-4 : Int32) := by decide
theorem bp_m3 : (Int8.ofInt (-3)).toInt32 = (-3 : Int32) := by decide
theorem bp_m2 : (Int8.ofInt (-2)).toInt32 = (-2 : Int32) := by decide
theorem bp_6 : (Int8.ofInt 6).toInt32 = (6 : Int32) := by decide
theorem bp_7 : (Int8.ofInt 7).toInt32 = (7 : Int32) := by decide
theorem bp_8 : (Int8.ofInt 8).toInt32 = (8 : Int32) := by decide
theorem bp_9 : (Int8.ofInt 9).toInt32 = (9 : Int32) := by decide
theorem bp_10 : (Int8.ofInt 10).toInt32 = (10 : Int32) := by decide
theorem bp_11 : (Int8.ofInt 11).toInt32 = (11 : Int32) := by decide
theorem bp_12 : (Int8.ofInt 12).toInt32 = (12 : Int32) := by decide
theorem bp_13 : (Int8.ofInt 13).toInt32 = (13 : Int32) := by decide
theorem bp_14 : (Int8.ofInt 14).toInt32 = (14 : Int32) := by decide
theorem bp_15 : (Int8.ofInt 15).toInt32 = (15 : Int32) := by decide
theorem bp_16 : (Int8.ofInt 16).toInt32 = (16 : Int32) := by decide
theorem bp_17 : (Int8.ofInt 17).toInt32 = (17 : Int32) := by decide
theorem bp_18 : (Int8.ofInt 18).toInt32 = (18 : Int32) := by decide
theorem bp_20 : (Int8.ofInt 20).toInt32 = (20 : Int32) := by decide
theorem bp_24 : (Int8.ofInt 24).toInt32 = (24 : Int32) := by decide
theorem bp_30 : (Int8.ofInt 30).toInt32 = (30 : Int32) := by decide
theorem bp_31 : (Int8.ofInt 31).toInt32 = (31 : Int32) := by decide
theorem bp_32 : (Int8.ofInt 32).toInt32 = (32 : Int32) := by decide
theorem bp_40 : (Int8.ofInt 40).toInt32 = (40 : Int32) := by decide
theorem bp_41 : (Int8.ofInt 41).toInt32 = (41 : Int32) := by decide
theorem bp_42 : (Int8.ofInt 42).toInt32 = (42 : Int32) := by decide
theorem bp_43 : (Int8.ofInt 43).toInt32 = (43 : Int32) := by decide
theorem bp_45 : (Int8.ofInt 45).toInt32 = (45 : Int32) := by decide
theorem bp_48 : (Int8.ofInt 48).toInt32 = (48 : Int32) := by decide
theorem bp_50 : (Int8.ofInt 50).toInt32 = (50 : Int32) := by decide
theorem bp_52 : (Int8.ofInt 52).toInt32 = (52 : Int32) := by decide
theorem bp_54 : (Int8.ofInt 54).toInt32 = (54 : Int32) := by decide
theorem bp_56 : (Int8.ofInt 56).toInt32 = (56 : Int32) := by decide
theorem bp_57 : (Int8.ofInt 57).toInt32 = (57 : Int32) := by decide
theorem bp_59 : (Int8.ofInt 59).toInt32 = (59 : Int32) := by decide
theorem bp_60 : (Int8.ofInt 60).toInt32 = (60 : Int32) := by decide
theorem bp_61 : (Int8.ofInt 61).toInt32 = (61 : Int32) := by decide
theorem bp_63 : (Int8.ofInt 63).toInt32 = (63 : Int32) := by decide
theorem bp_64 : (Int8.ofInt 64).toInt32 = (64 : Int32) := by decide
theorem bp_72 : (Int8.ofInt 72).toInt32 = (72 : Int32) := by decide
theorem bp_80 : (Int8.ofInt 80).toInt32 = (80 : Int32) := by decide
theorem bp_97 : (Int8.ofInt 97).toInt32 = (97 : Int32) := by decide
theorem bp_98 : (Int8.ofInt 98).toInt32 = (98 : Int32) := by decide
theorem bp_99 : (Int8.ofInt 99).toInt32 = (99 : Int32) := by decide
theorem bp_100 : (Int8.ofInt 100).toInt32 = (100 : Int32) := by decide
theorem bp_101 : (Int8.ofInt 101).toInt32 = (101 : Int32) := by decide
theorem bp_102 : (Int8.ofInt 102).toInt32 = (102 : Int32) := by decide
theorem bp_103 : (Int8.ofInt 103).toInt32 = (103 : Int32) := by decide
theorem bp_105 : (Int8.ofInt 105).toInt32 = (105 : Int32) := by decide
theorem bp_107 : (Int8.ofInt 107).toInt32 = (107 : Int32) := by decide
theorem bp_108 : (Int8.ofInt 108).toInt32 = (108 : Int32) := by decide
theorem bp_109 : (Int8.ofInt 109).toInt32 = (109 : Int32) := by decide
theorem bp_110 : (Int8.ofInt 110).toInt32 = (110 : Int32) := by decide
theorem bp_111 : (Int8.ofInt 111).toInt32 = (111 : Int32) := by decide
theorem bp_112 : (Int8.ofInt 112).toInt32 = (112 : Int32) := by decide
theorem bp_114 : (Int8.ofInt 114).toInt32 = (114 : Int32) := by decide
theorem bp_115 : (Int8.ofInt 115).toInt32 = (115 : Int32) := by decide
theorem bp_116 : (Int8.ofInt 116).toInt32 = (116 : Int32) := by decide
theorem bp_117 : (Int8.ofInt 117).toInt32 = (117 : Int32) := by decide
theorem bp_119 : (Int8.ofInt 119).toInt32 = (119 : Int32) := by decide
theorem bp_121 : (Int8.ofInt 121).toInt32 = (121 : Int32) := by decide
theorem bp_122 : (Int8.ofInt 122).toInt32 = (122 : Int32) := by decide
theorem sp_160 : (Int16.ofInt 160).toInt32 = (160 : Int32) := by decide
theorem sp_161 : (Int16.ofInt 161).toInt32 = (161 : Int32) := by decide
theorem sp_240 : (Int16.ofInt 240).toInt32 = (240 : Int32) := by decide
theorem sp_255 : (Int16.ofInt 255).toInt32 = (255 : Int32) := by decide
theorem sp_720 : (Int16.ofInt 720).toInt32 = (720 : Int32) := by decide
theorem sp_960 : (Int16.ofInt 960).toInt32 = (960 : Int32) := by decide
theorem sp_999 : (Int16.ofInt 999).toInt32 = (999 : Int32) := by decide
theorem sp_1023 : (Int16.ofInt 1023).toInt32 = (1023 : Int32) := by decide
theorem sp_4000 : (Int16.ofInt 4000).toInt32 = (4000 : Int32) := by decide
theorem sp_12345 : (Int16.ofInt 12345).toInt32 = (12345 : Int32) := by decide
theorem ii_m1 : Int32.ofInt (-1) = (-1 : Int32) := by decide
theorem ii_1 : Int32.ofInt 1 = (1 : Int32) := by decide
theorem ii_6 : Int32.ofInt 6 = (6 : Int32) := by decide
theorem lc_0 : Int64.ofNat ((0 : Fin 2) : Nat) = (0 : Int64) := by decide
theorem lc_1 : Int64.ofNat ((1 : Fin 2) : Nat) = (1 : Int64) := by decide
theorem gt_list {ws : List Cond} (ps : List Nat) (h : ws = ps.filterMap (fun i => lw_tbl[i]?)) (g : ws.all goodWord = true) : ∀ w ∈ ws, w ∈ gt := by
  intro w hw
  have h1 := List.all_eq_true.mp g w hw
  rw [h] at hw
  obtain ⟨i, -, hi⟩ := List.mem_filterMap.mp hw
  exact gt_of i hi h1
theorem gc_X0 : ∀ w ∈ u_ws RX0 TX0 17, w ∈ gt := gt_list [259, 261, 263, 265, 267, 269, 271, 273, 275, 277, 279, 281, 283, 285, 287, 289, 291] (by decide +kernel) (by decide +kernel)
theorem gc_X2 : ∀ w ∈ u_ws RX2 TX2 4, w ∈ gt := gt_list [307, 309, 311, 313] (by decide +kernel) (by decide +kernel)
theorem gc_X3 : ∀ w ∈ u_ws RX3 TX3 5, w ∈ gt := gt_list [210, 212, 214, 216, 218] (by decide +kernel) (by decide +kernel)
theorem gc_X4 : ∀ w ∈ u_ws RX4 TX4 3, w ∈ gt := gt_list [331, 333, 335] (by decide +kernel) (by decide +kernel)
theorem gc_X5 : ∀ w ∈ u_ws RX5 TX5 7, w ∈ gt := gt_list [135, 137, 139, 141, 143, 145, 147] (by decide +kernel) (by decide +kernel)
theorem gc_X6 : ∀ w ∈ u_ws RX6 TX6 6, w ∈ gt := gt_list [169, 171, 173, 175, 177, 179] (by decide +kernel) (by decide +kernel)
theorem gc_X7 : ∀ w ∈ u_ws RX7 TX7 3, w ∈ gt := gt_list [197, 199, 201] (by decide +kernel) (by decide +kernel)
theorem gc_X8 : ∀ w ∈ u_ws RX8 TX8 10, w ∈ gt := gt_list [596, 598, 600, 602, 604, 606, 608, 610, 612, 614] (by decide +kernel) (by decide +kernel)
theorem gc_X9 : ∀ w ∈ u_ws RX9 TX9 53, w ∈ gt := gt_list [1014, 1016, 1018, 1020, 1022, 1024, 1026, 1028, 1030, 1032, 1034, 1036, 1038, 1040, 1042, 1044, 1046, 1048, 1050, 1052, 1054, 1056, 1058, 1060, 1062, 1064, 1066, 1068, 1070, 1072, 1074, 1076, 1078, 1080, 1082, 1084, 1086, 1088, 1090, 1092, 1094, 1096, 1098, 1100, 1102, 1104, 1106, 1108, 1110, 1112, 1114, 1116, 1118] (by decide +kernel) (by decide +kernel)
theorem fl_X8_10 : FL RX8 10 7 0 := ⟨RX8, TX8, 10, rfl, by decide, gc_X8, Or.inl (gt_of 586 (by decide +kernel) rfl)⟩
theorem fl_X8_16 : FL RX8 16 7 1 := ⟨RX8, TX8, 10, rfl, by decide, gc_X8, Or.inl (gt_of 587 (by decide +kernel) rfl)⟩
theorem fl_X8_19 : FL RX8 19 7 2 := ⟨RX8, TX8, 10, rfl, by decide, gc_X8, Or.inl (gt_of 588 (by decide +kernel) rfl)⟩
theorem fp_X8_19 : FP RX8 19 7 2 .boolean := ⟨RX8, TX8, 10, tyX8, rfl, by decide, gc_X8, Or.inl (gt_of 588 (by decide +kernel) rfl), tyX8_ok, nmX8, rfl, by decide +kernel⟩
theorem fl_X8_26 : FL RX8 26 7 3 := ⟨RX8, TX8, 10, rfl, by decide, gc_X8, Or.inl (gt_of 589 (by decide +kernel) rfl)⟩
theorem fl_X8_35 : FL RX8 35 7 4 := ⟨RX8, TX8, 10, rfl, by decide, gc_X8, Or.inl (gt_of 590 (by decide +kernel) rfl)⟩
theorem fl_X8_41 : FL RX8 41 7 5 := ⟨RX8, TX8, 10, rfl, by decide, gc_X8, Or.inl (gt_of 591 (by decide +kernel) rfl)⟩
theorem fl_X8_45 : FL RX8 45 7 6 := ⟨RX8, TX8, 10, rfl, by decide, gc_X8, Or.inl (gt_of 592 (by decide +kernel) rfl)⟩
theorem fp_X8_45 : FP RX8 45 7 6 .int := ⟨RX8, TX8, 10, tyX8, rfl, by decide, gc_X8, Or.inl (gt_of 592 (by decide +kernel) rfl), tyX8_ok, nmX8, rfl, by decide +kernel⟩
theorem fl_X8_54 : FL RX8 54 7 7 := ⟨RX8, TX8, 10, rfl, by decide, gc_X8, Or.inl (gt_of 593 (by decide +kernel) rfl)⟩
theorem fl_X8_61 : FL RX8 61 7 8 := ⟨RX8, TX8, 10, rfl, by decide, gc_X8, Or.inl (gt_of 594 (by decide +kernel) rfl)⟩
theorem fl_X8_67 : FL RX8 67 7 9 := ⟨RX8, TX8, 10, rfl, by decide, gc_X8, Or.inl (gt_of 595 (by decide +kernel) rfl)⟩
theorem fl_X8_113 : FL RX8 113 4 1 := ⟨RX5, TX5, 7, rfl, by decide, gc_X5, Or.inr ⟨"BeforeItGoes", nw_of 119 (by decide +kernel) rfl⟩⟩
theorem fl_X8_116 : FL RX8 116 4 2 := ⟨RX5, TX5, 7, rfl, by decide, gc_X5, Or.inr ⟨"BeforeItGoes", nw_of 122 (by decide +kernel) rfl⟩⟩
theorem fl_X8_119 : FL RX8 119 4 3 := ⟨RX5, TX5, 7, rfl, by decide, gc_X5, Or.inr ⟨"BeforeItGoes", nw_of 125 (by decide +kernel) rfl⟩⟩
theorem fl_X8_122 : FL RX8 122 4 4 := ⟨RX5, TX5, 7, rfl, by decide, gc_X5, Or.inr ⟨"BeforeItGoes", nw_of 128 (by decide +kernel) rfl⟩⟩
theorem fl_X8_135 : FL RX8 135 0 5 := ⟨RX0, TX0, 17, rfl, by decide, gc_X0, Or.inr ⟨"BeforeItGoes", nw_of 238 (by decide +kernel) rfl⟩⟩
theorem fl_X8_138 : FL RX8 138 0 6 := ⟨RX0, TX0, 17, rfl, by decide, gc_X0, Or.inr ⟨"BeforeItGoes", nw_of 240 (by decide +kernel) rfl⟩⟩
theorem fl_X8_141 : FL RX8 141 0 7 := ⟨RX0, TX0, 17, rfl, by decide, gc_X0, Or.inr ⟨"BeforeItGoes", nw_of 242 (by decide +kernel) rfl⟩⟩
theorem fl_X8_150 : FL RX8 150 2 1 := ⟨RX3, TX3, 5, rfl, by decide, gc_X3, Or.inr ⟨"BeforeItGoes", nw_of 206 (by decide +kernel) rfl⟩⟩
theorem fl_X8_158 : FL RX8 158 4 6 := ⟨RX5, TX5, 7, rfl, by decide, gc_X5, Or.inr ⟨"BeforeItGoes", nw_of 134 (by decide +kernel) rfl⟩⟩
theorem fp_X8_158 : FP RX8 158 4 6 .int := ⟨RX5, TX5, 7, tyX5, rfl, by decide, gc_X5, Or.inr ⟨"BeforeItGoes", nw_of 134 (by decide +kernel) rfl⟩, tyX5_ok, nmX5, rfl, by decide +kernel⟩
theorem fl_X8_183 : FL RX8 183 3 2 := ⟨RX4, TX4, 3, rfl, by decide, gc_X4, Or.inr ⟨"BeforeItGoes", nw_of 330 (by decide +kernel) rfl⟩⟩
theorem fp_X8_183 : FP RX8 183 3 2 .int := ⟨RX4, TX4, 3, tyX4, rfl, by decide, gc_X4, Or.inr ⟨"BeforeItGoes", nw_of 330 (by decide +kernel) rfl⟩, tyX4_ok, nmX4, rfl, by decide +kernel⟩
theorem fl_X8_186 : FL RX8 186 4 5 := ⟨RX5, TX5, 7, rfl, by decide, gc_X5, Or.inr ⟨"BeforeItGoes", nw_of 131 (by decide +kernel) rfl⟩⟩
theorem fp_X8_186 : FP RX8 186 4 5 .int := ⟨RX5, TX5, 7, tyX5, rfl, by decide, gc_X5, Or.inr ⟨"BeforeItGoes", nw_of 131 (by decide +kernel) rfl⟩, tyX5_ok, nmX5, rfl, by decide +kernel⟩
theorem fl_X8_187 : FL RX8 187 3 0 := ⟨RX4, TX4, 3, rfl, by decide, gc_X4, Or.inr ⟨"BeforeItGoes", nw_of 325 (by decide +kernel) rfl⟩⟩
theorem fl_X8_194 : FL RX8 194 0 16 := ⟨RX0, TX0, 17, rfl, by decide, gc_X0, Or.inr ⟨"BeforeItGoes", nw_of 258 (by decide +kernel) rfl⟩⟩
theorem fp_X8_194 : FP RX8 194 0 16 .int := ⟨RX0, TX0, 17, tyX0, rfl, by decide, gc_X0, Or.inr ⟨"BeforeItGoes", nw_of 258 (by decide +kernel) rfl⟩, tyX0_ok, nmX0, rfl, by decide +kernel⟩
theorem fl_X8_197 : FL RX8 197 0 14 := ⟨RX0, TX0, 17, rfl, by decide, gc_X0, Or.inr ⟨"BeforeItGoes", nw_of 254 (by decide +kernel) rfl⟩⟩
theorem fp_X8_197 : FP RX8 197 0 14 .int := ⟨RX0, TX0, 17, tyX0, rfl, by decide, gc_X0, Or.inr ⟨"BeforeItGoes", nw_of 254 (by decide +kernel) rfl⟩, tyX0_ok, nmX0, rfl, by decide +kernel⟩
theorem fl_X8_200 : FL RX8 200 0 15 := ⟨RX0, TX0, 17, rfl, by decide, gc_X0, Or.inr ⟨"BeforeItGoes", nw_of 256 (by decide +kernel) rfl⟩⟩
theorem fp_X8_200 : FP RX8 200 0 15 .int := ⟨RX0, TX0, 17, tyX0, rfl, by decide, gc_X0, Or.inr ⟨"BeforeItGoes", nw_of 256 (by decide +kernel) rfl⟩, tyX0_ok, nmX0, rfl, by decide +kernel⟩
theorem fl_X8_212 : FL RX8 212 0 8 := ⟨RX0, TX0, 17, rfl, by decide, gc_X0, Or.inr ⟨"BeforeItGoes", nw_of 244 (by decide +kernel) rfl⟩⟩
theorem fl_X8_215 : FL RX8 215 0 9 := ⟨RX0, TX0, 17, rfl, by decide, gc_X0, Or.inr ⟨"BeforeItGoes", nw_of 246 (by decide +kernel) rfl⟩⟩
theorem fl_X8_218 : FL RX8 218 0 10 := ⟨RX0, TX0, 17, rfl, by decide, gc_X0, Or.inr ⟨"BeforeItGoes", nw_of 248 (by decide +kernel) rfl⟩⟩
theorem fl_X8_221 : FL RX8 221 0 11 := ⟨RX0, TX0, 17, rfl, by decide, gc_X0, Or.inr ⟨"BeforeItGoes", nw_of 250 (by decide +kernel) rfl⟩⟩
theorem fl_X8_224 : FL RX8 224 0 0 := ⟨RX0, TX0, 17, rfl, by decide, gc_X0, Or.inr ⟨"BeforeItGoes", nw_of 232 (by decide +kernel) rfl⟩⟩
theorem fl_X8_242 : FL RX8 242 1 2 := ⟨RX2, TX2, 4, rfl, by decide, gc_X2, Or.inr ⟨"BeforeItGoes", nw_of 304 (by decide +kernel) rfl⟩⟩
theorem fp_X8_242 : FP RX8 242 1 2 .int := ⟨RX2, TX2, 4, tyX2, rfl, by decide, gc_X2, Or.inr ⟨"BeforeItGoes", nw_of 304 (by decide +kernel) rfl⟩, tyX2_ok, nmX2, rfl, by decide +kernel⟩
theorem fl_X8_243 : FL RX8 243 1 3 := ⟨RX2, TX2, 4, rfl, by decide, gc_X2, Or.inr ⟨"BeforeItGoes", nw_of 306 (by decide +kernel) rfl⟩⟩
theorem fp_X8_243 : FP RX8 243 1 3 .int := ⟨RX2, TX2, 4, tyX2, rfl, by decide, gc_X2, Or.inr ⟨"BeforeItGoes", nw_of 306 (by decide +kernel) rfl⟩, tyX2_ok, nmX2, rfl, by decide +kernel⟩
theorem fl_X8_246 : FL RX8 246 1 1 := ⟨RX2, TX2, 4, rfl, by decide, gc_X2, Or.inr ⟨"BeforeItGoes", nw_of 302 (by decide +kernel) rfl⟩⟩
theorem fp_X8_246 : FP RX8 246 1 1 .int := ⟨RX2, TX2, 4, tyX2, rfl, by decide, gc_X2, Or.inr ⟨"BeforeItGoes", nw_of 302 (by decide +kernel) rfl⟩, tyX2_ok, nmX2, rfl, by decide +kernel⟩
theorem fl_X8_293 : FL RX8 293 4 0 := ⟨RX5, TX5, 7, rfl, by decide, gc_X5, Or.inr ⟨"BeforeItGoes", nw_of 116 (by decide +kernel) rfl⟩⟩
theorem fl_X8_296 : FL RX8 296 5 1 := ⟨RX6, TX6, 6, rfl, by decide, gc_X6, Or.inr ⟨"BeforeItGoes", nw_of 160 (by decide +kernel) rfl⟩⟩
theorem fp_X8_296 : FP RX8 296 5 1 .int := ⟨RX6, TX6, 6, tyX6, rfl, by decide, gc_X6, Or.inr ⟨"BeforeItGoes", nw_of 160 (by decide +kernel) rfl⟩, tyX6_ok, nmX6, rfl, by decide +kernel⟩
theorem fl_X8_298 : FL RX8 298 3 1 := ⟨RX4, TX4, 3, rfl, by decide, gc_X4, Or.inr ⟨"BeforeItGoes", nw_of 328 (by decide +kernel) rfl⟩⟩
theorem fp_X8_298 : FP RX8 298 3 1 .int := ⟨RX4, TX4, 3, tyX4, rfl, by decide, gc_X4, Or.inr ⟨"BeforeItGoes", nw_of 328 (by decide +kernel) rfl⟩, tyX4_ok, nmX4, rfl, by decide +kernel⟩
theorem fl_X0_12 : FL RX0 12 0 0 := ⟨RX0, TX0, 17, rfl, by decide, gc_X0, Or.inl (gt_of 231 (by decide +kernel) rfl)⟩
theorem fl_X0_18 : FL RX0 18 0 2 := ⟨RX0, TX0, 17, rfl, by decide, gc_X0, Or.inl (gt_of 234 (by decide +kernel) rfl)⟩
theorem fl_X0_22 : FL RX0 22 0 3 := ⟨RX0, TX0, 17, rfl, by decide, gc_X0, Or.inl (gt_of 235 (by decide +kernel) rfl)⟩
theorem fl_X0_25 : FL RX0 25 0 4 := ⟨RX0, TX0, 17, rfl, by decide, gc_X0, Or.inl (gt_of 236 (by decide +kernel) rfl)⟩
theorem fl_X0_28 : FL RX0 28 0 5 := ⟨RX0, TX0, 17, rfl, by decide, gc_X0, Or.inl (gt_of 237 (by decide +kernel) rfl)⟩
theorem fl_X0_31 : FL RX0 31 0 6 := ⟨RX0, TX0, 17, rfl, by decide, gc_X0, Or.inl (gt_of 239 (by decide +kernel) rfl)⟩
theorem fl_X0_34 : FL RX0 34 0 7 := ⟨RX0, TX0, 17, rfl, by decide, gc_X0, Or.inl (gt_of 241 (by decide +kernel) rfl)⟩
theorem fl_X0_37 : FL RX0 37 0 8 := ⟨RX0, TX0, 17, rfl, by decide, gc_X0, Or.inl (gt_of 243 (by decide +kernel) rfl)⟩
theorem fl_X0_40 : FL RX0 40 0 9 := ⟨RX0, TX0, 17, rfl, by decide, gc_X0, Or.inl (gt_of 245 (by decide +kernel) rfl)⟩
theorem fl_X0_43 : FL RX0 43 0 10 := ⟨RX0, TX0, 17, rfl, by decide, gc_X0, Or.inl (gt_of 247 (by decide +kernel) rfl)⟩
theorem fl_X0_46 : FL RX0 46 0 11 := ⟨RX0, TX0, 17, rfl, by decide, gc_X0, Or.inl (gt_of 249 (by decide +kernel) rfl)⟩
theorem fl_X0_49 : FL RX0 49 0 1 := ⟨RX0, TX0, 17, rfl, by decide, gc_X0, Or.inl (gt_of 233 (by decide +kernel) rfl)⟩
theorem fl_X0_53 : FL RX0 53 4 5 := ⟨RX5, TX5, 7, rfl, by decide, gc_X5, Or.inr ⟨"BeforeItGoes", nw_of 130 (by decide +kernel) rfl⟩⟩
theorem fp_X0_53 : FP RX0 53 4 5 .int := ⟨RX5, TX5, 7, tyX5, rfl, by decide, gc_X5, Or.inr ⟨"BeforeItGoes", nw_of 130 (by decide +kernel) rfl⟩, tyX5_ok, nmX5, rfl, by decide +kernel⟩
theorem fl_X0_57 : FL RX0 57 4 1 := ⟨RX5, TX5, 7, rfl, by decide, gc_X5, Or.inr ⟨"BeforeItGoes", nw_of 118 (by decide +kernel) rfl⟩⟩
theorem fl_X0_60 : FL RX0 60 4 2 := ⟨RX5, TX5, 7, rfl, by decide, gc_X5, Or.inr ⟨"BeforeItGoes", nw_of 121 (by decide +kernel) rfl⟩⟩
theorem fl_X0_63 : FL RX0 63 4 4 := ⟨RX5, TX5, 7, rfl, by decide, gc_X5, Or.inr ⟨"BeforeItGoes", nw_of 127 (by decide +kernel) rfl⟩⟩
theorem fl_X0_78 : FL RX0 78 4 3 := ⟨RX5, TX5, 7, rfl, by decide, gc_X5, Or.inr ⟨"BeforeItGoes", nw_of 124 (by decide +kernel) rfl⟩⟩
theorem fl_X0_83 : FL RX0 83 4 6 := ⟨RX5, TX5, 7, rfl, by decide, gc_X5, Or.inr ⟨"BeforeItGoes", nw_of 133 (by decide +kernel) rfl⟩⟩
theorem fp_X0_83 : FP RX0 83 4 6 .int := ⟨RX5, TX5, 7, tyX5, rfl, by decide, gc_X5, Or.inr ⟨"BeforeItGoes", nw_of 133 (by decide +kernel) rfl⟩, tyX5_ok, nmX5, rfl, by decide +kernel⟩
theorem fl_X0_86 : FL RX0 86 4 0 := ⟨RX5, TX5, 7, rfl, by decide, gc_X5, Or.inr ⟨"BeforeItGoes", nw_of 115 (by decide +kernel) rfl⟩⟩
theorem fl_X0_112 : FL RX0 112 0 13 := ⟨RX0, TX0, 17, rfl, by decide, gc_X0, Or.inl (gt_of 252 (by decide +kernel) rfl)⟩
theorem fp_X0_112 : FP RX0 112 0 13 .int := ⟨RX0, TX0, 17, tyX0, rfl, by decide, gc_X0, Or.inl (gt_of 252 (by decide +kernel) rfl), tyX0_ok, nmX0, rfl, by decide +kernel⟩
theorem fl_X0_115 : FL RX0 115 0 14 := ⟨RX0, TX0, 17, rfl, by decide, gc_X0, Or.inl (gt_of 253 (by decide +kernel) rfl)⟩
theorem fp_X0_115 : FP RX0 115 0 14 .int := ⟨RX0, TX0, 17, tyX0, rfl, by decide, gc_X0, Or.inl (gt_of 253 (by decide +kernel) rfl), tyX0_ok, nmX0, rfl, by decide +kernel⟩
theorem fl_X0_130 : FL RX0 130 0 12 := ⟨RX0, TX0, 17, rfl, by decide, gc_X0, Or.inl (gt_of 251 (by decide +kernel) rfl)⟩
theorem fp_X0_130 : FP RX0 130 0 12 .int := ⟨RX0, TX0, 17, tyX0, rfl, by decide, gc_X0, Or.inl (gt_of 251 (by decide +kernel) rfl), tyX0_ok, nmX0, rfl, by decide +kernel⟩
theorem fl_X0_139 : FL RX0 139 0 15 := ⟨RX0, TX0, 17, rfl, by decide, gc_X0, Or.inl (gt_of 255 (by decide +kernel) rfl)⟩
theorem fp_X0_139 : FP RX0 139 0 15 .int := ⟨RX0, TX0, 17, tyX0, rfl, by decide, gc_X0, Or.inl (gt_of 255 (by decide +kernel) rfl), tyX0_ok, nmX0, rfl, by decide +kernel⟩
theorem fl_X0_142 : FL RX0 142 0 16 := ⟨RX0, TX0, 17, rfl, by decide, gc_X0, Or.inl (gt_of 257 (by decide +kernel) rfl)⟩
theorem fp_X0_142 : FP RX0 142 0 16 .int := ⟨RX0, TX0, 17, tyX0, rfl, by decide, gc_X0, Or.inl (gt_of 257 (by decide +kernel) rfl), tyX0_ok, nmX0, rfl, by decide +kernel⟩
theorem fl_X0_148 : FL RX0 148 3 0 := ⟨RX4, TX4, 3, rfl, by decide, gc_X4, Or.inr ⟨"BeforeItGoes", nw_of 326 (by decide +kernel) rfl⟩⟩
theorem fl_X2_7 : FL RX2 7 1 0 := ⟨RX2, TX2, 4, rfl, by decide, gc_X2, Or.inl (gt_of 300 (by decide +kernel) rfl)⟩
theorem fp_X2_7 : FP RX2 7 1 0 .boolean := ⟨RX2, TX2, 4, tyX2, rfl, by decide, gc_X2, Or.inl (gt_of 300 (by decide +kernel) rfl), tyX2_ok, nmX2, rfl, by decide +kernel⟩
theorem fl_X2_13 : FL RX2 13 1 2 := ⟨RX2, TX2, 4, rfl, by decide, gc_X2, Or.inl (gt_of 303 (by decide +kernel) rfl)⟩
theorem fp_X2_13 : FP RX2 13 1 2 .int := ⟨RX2, TX2, 4, tyX2, rfl, by decide, gc_X2, Or.inl (gt_of 303 (by decide +kernel) rfl), tyX2_ok, nmX2, rfl, by decide +kernel⟩
theorem fl_X2_17 : FL RX2 17 1 3 := ⟨RX2, TX2, 4, rfl, by decide, gc_X2, Or.inl (gt_of 305 (by decide +kernel) rfl)⟩
theorem fp_X2_17 : FP RX2 17 1 3 .int := ⟨RX2, TX2, 4, tyX2, rfl, by decide, gc_X2, Or.inl (gt_of 305 (by decide +kernel) rfl), tyX2_ok, nmX2, rfl, by decide +kernel⟩
theorem fl_X2_20 : FL RX2 20 1 1 := ⟨RX2, TX2, 4, rfl, by decide, gc_X2, Or.inl (gt_of 301 (by decide +kernel) rfl)⟩
theorem fp_X2_20 : FP RX2 20 1 1 .int := ⟨RX2, TX2, 4, tyX2, rfl, by decide, gc_X2, Or.inl (gt_of 301 (by decide +kernel) rfl), tyX2_ok, nmX2, rfl, by decide +kernel⟩
theorem fl_X3_12 : FL RX3 12 2 1 := ⟨RX3, TX3, 5, rfl, by decide, gc_X3, Or.inl (gt_of 205 (by decide +kernel) rfl)⟩
theorem fl_X3_18 : FL RX3 18 2 0 := ⟨RX3, TX3, 5, rfl, by decide, gc_X3, Or.inl (gt_of 204 (by decide +kernel) rfl)⟩
theorem fl_X3_22 : FL RX3 22 2 3 := ⟨RX3, TX3, 5, rfl, by decide, gc_X3, Or.inl (gt_of 208 (by decide +kernel) rfl)⟩
theorem fp_X3_22 : FP RX3 22 2 3 .int := ⟨RX3, TX3, 5, tyX3, rfl, by decide, gc_X3, Or.inl (gt_of 208 (by decide +kernel) rfl), tyX3_ok, nmX3, rfl, by decide +kernel⟩
theorem fl_X3_26 : FL RX3 26 2 4 := ⟨RX3, TX3, 5, rfl, by decide, gc_X3, Or.inl (gt_of 209 (by decide +kernel) rfl)⟩
theorem fp_X3_26 : FP RX3 26 2 4 .int := ⟨RX3, TX3, 5, tyX3, rfl, by decide, gc_X3, Or.inl (gt_of 209 (by decide +kernel) rfl), tyX3_ok, nmX3, rfl, by decide +kernel⟩
theorem fl_X3_32 : FL RX3 32 2 2 := ⟨RX3, TX3, 5, rfl, by decide, gc_X3, Or.inl (gt_of 207 (by decide +kernel) rfl)⟩
theorem fp_X3_32 : FP RX3 32 2 2 .int := ⟨RX3, TX3, 5, tyX3, rfl, by decide, gc_X3, Or.inl (gt_of 207 (by decide +kernel) rfl), tyX3_ok, nmX3, rfl, by decide +kernel⟩
theorem fl_X3_54 : FL RX3 54 5 2 := ⟨RX6, TX6, 6, rfl, by decide, gc_X6, Or.inr ⟨"BeforeItGoes", nw_of 162 (by decide +kernel) rfl⟩⟩
theorem fl_X3_58 : FL RX3 58 5 5 := ⟨RX6, TX6, 6, rfl, by decide, gc_X6, Or.inr ⟨"BeforeItGoes", nw_of 168 (by decide +kernel) rfl⟩⟩
theorem fp_X3_58 : FP RX3 58 5 5 .int := ⟨RX6, TX6, 6, tyX6, rfl, by decide, gc_X6, Or.inr ⟨"BeforeItGoes", nw_of 168 (by decide +kernel) rfl⟩, tyX6_ok, nmX6, rfl, by decide +kernel⟩
theorem fl_X3_61 : FL RX3 61 5 3 := ⟨RX6, TX6, 6, rfl, by decide, gc_X6, Or.inr ⟨"BeforeItGoes", nw_of 164 (by decide +kernel) rfl⟩⟩
theorem fl_X3_64 : FL RX3 64 5 1 := ⟨RX6, TX6, 6, rfl, by decide, gc_X6, Or.inr ⟨"BeforeItGoes", nw_of 159 (by decide +kernel) rfl⟩⟩
theorem fp_X3_64 : FP RX3 64 5 1 .int := ⟨RX6, TX6, 6, tyX6, rfl, by decide, gc_X6, Or.inr ⟨"BeforeItGoes", nw_of 159 (by decide +kernel) rfl⟩, tyX6_ok, nmX6, rfl, by decide +kernel⟩
theorem fl_X3_111 : FL RX3 111 5 4 := ⟨RX6, TX6, 6, rfl, by decide, gc_X6, Or.inr ⟨"BeforeItGoes", nw_of 166 (by decide +kernel) rfl⟩⟩
theorem fl_X4_9 : FL RX4 9 3 0 := ⟨RX4, TX4, 3, rfl, by decide, gc_X4, Or.inl (gt_of 324 (by decide +kernel) rfl)⟩
theorem fl_X4_15 : FL RX4 15 3 1 := ⟨RX4, TX4, 3, rfl, by decide, gc_X4, Or.inl (gt_of 327 (by decide +kernel) rfl)⟩
theorem fp_X4_15 : FP RX4 15 3 1 .int := ⟨RX4, TX4, 3, tyX4, rfl, by decide, gc_X4, Or.inl (gt_of 327 (by decide +kernel) rfl), tyX4_ok, nmX4, rfl, by decide +kernel⟩
theorem fl_X4_19 : FL RX4 19 3 2 := ⟨RX4, TX4, 3, rfl, by decide, gc_X4, Or.inl (gt_of 329 (by decide +kernel) rfl)⟩
theorem fp_X4_19 : FP RX4 19 3 2 .int := ⟨RX4, TX4, 3, tyX4, rfl, by decide, gc_X4, Or.inl (gt_of 329 (by decide +kernel) rfl), tyX4_ok, nmX4, rfl, by decide +kernel⟩
theorem fl_X5_9 : FL RX5 9 4 0 := ⟨RX5, TX5, 7, rfl, by decide, gc_X5, Or.inl (gt_of 114 (by decide +kernel) rfl)⟩
theorem fl_X5_15 : FL RX5 15 4 1 := ⟨RX5, TX5, 7, rfl, by decide, gc_X5, Or.inl (gt_of 117 (by decide +kernel) rfl)⟩
theorem fl_X5_18 : FL RX5 18 4 2 := ⟨RX5, TX5, 7, rfl, by decide, gc_X5, Or.inl (gt_of 120 (by decide +kernel) rfl)⟩
theorem fl_X5_21 : FL RX5 21 4 3 := ⟨RX5, TX5, 7, rfl, by decide, gc_X5, Or.inl (gt_of 123 (by decide +kernel) rfl)⟩
theorem fl_X5_24 : FL RX5 24 4 4 := ⟨RX5, TX5, 7, rfl, by decide, gc_X5, Or.inl (gt_of 126 (by decide +kernel) rfl)⟩
theorem fl_X5_27 : FL RX5 27 4 5 := ⟨RX5, TX5, 7, rfl, by decide, gc_X5, Or.inl (gt_of 129 (by decide +kernel) rfl)⟩
theorem fp_X5_27 : FP RX5 27 4 5 .int := ⟨RX5, TX5, 7, tyX5, rfl, by decide, gc_X5, Or.inl (gt_of 129 (by decide +kernel) rfl), tyX5_ok, nmX5, rfl, by decide +kernel⟩
theorem fl_X5_31 : FL RX5 31 4 6 := ⟨RX5, TX5, 7, rfl, by decide, gc_X5, Or.inl (gt_of 132 (by decide +kernel) rfl)⟩
theorem fp_X5_31 : FP RX5 31 4 6 .int := ⟨RX5, TX5, 7, tyX5, rfl, by decide, gc_X5, Or.inl (gt_of 132 (by decide +kernel) rfl), tyX5_ok, nmX5, rfl, by decide +kernel⟩
theorem fl_X6_9 : FL RX6 9 5 0 := ⟨RX6, TX6, 6, rfl, by decide, gc_X6, Or.inl (gt_of 157 (by decide +kernel) rfl)⟩
theorem fl_X6_15 : FL RX6 15 5 1 := ⟨RX6, TX6, 6, rfl, by decide, gc_X6, Or.inl (gt_of 158 (by decide +kernel) rfl)⟩
theorem fp_X6_15 : FP RX6 15 5 1 .int := ⟨RX6, TX6, 6, tyX6, rfl, by decide, gc_X6, Or.inl (gt_of 158 (by decide +kernel) rfl), tyX6_ok, nmX6, rfl, by decide +kernel⟩
theorem fl_X6_19 : FL RX6 19 5 2 := ⟨RX6, TX6, 6, rfl, by decide, gc_X6, Or.inl (gt_of 161 (by decide +kernel) rfl)⟩
theorem fl_X6_22 : FL RX6 22 5 3 := ⟨RX6, TX6, 6, rfl, by decide, gc_X6, Or.inl (gt_of 163 (by decide +kernel) rfl)⟩
theorem fl_X6_25 : FL RX6 25 5 4 := ⟨RX6, TX6, 6, rfl, by decide, gc_X6, Or.inl (gt_of 165 (by decide +kernel) rfl)⟩
theorem fl_X6_28 : FL RX6 28 5 5 := ⟨RX6, TX6, 6, rfl, by decide, gc_X6, Or.inl (gt_of 167 (by decide +kernel) rfl)⟩
theorem fp_X6_28 : FP RX6 28 5 5 .int := ⟨RX6, TX6, 6, tyX6, rfl, by decide, gc_X6, Or.inl (gt_of 167 (by decide +kernel) rfl), tyX6_ok, nmX6, rfl, by decide +kernel⟩
theorem fl_X7_9 : FL RX7 9 6 0 := ⟨RX7, TX7, 3, rfl, by decide, gc_X7, Or.inl (gt_of 194 (by decide +kernel) rfl)⟩
theorem fl_X7_15 : FL RX7 15 6 1 := ⟨RX7, TX7, 3, rfl, by decide, gc_X7, Or.inl (gt_of 195 (by decide +kernel) rfl)⟩
theorem fl_X7_18 : FL RX7 18 6 2 := ⟨RX7, TX7, 3, rfl, by decide, gc_X7, Or.inl (gt_of 196 (by decide +kernel) rfl)⟩
theorem fp_X7_18 : FP RX7 18 6 2 .int := ⟨RX7, TX7, 3, tyX7, rfl, by decide, gc_X7, Or.inl (gt_of 196 (by decide +kernel) rfl), tyX7_ok, nmX7, rfl, by decide +kernel⟩
theorem fl_X9_13 : FL RX9 13 8 1 := ⟨RX9, TX9, 53, rfl, by decide, gc_X9, Or.inl (gt_of 962 (by decide +kernel) rfl)⟩
theorem fl_X9_17 : FL RX9 17 8 2 := ⟨RX9, TX9, 53, rfl, by decide, gc_X9, Or.inl (gt_of 963 (by decide +kernel) rfl)⟩
theorem fl_X9_20 : FL RX9 20 8 5 := ⟨RX9, TX9, 53, rfl, by decide, gc_X9, Or.inl (gt_of 966 (by decide +kernel) rfl)⟩
theorem fl_X9_23 : FL RX9 23 8 7 := ⟨RX9, TX9, 53, rfl, by decide, gc_X9, Or.inl (gt_of 968 (by decide +kernel) rfl)⟩
theorem fl_X9_26 : FL RX9 26 8 8 := ⟨RX9, TX9, 53, rfl, by decide, gc_X9, Or.inl (gt_of 969 (by decide +kernel) rfl)⟩
theorem fl_X9_29 : FL RX9 29 8 9 := ⟨RX9, TX9, 53, rfl, by decide, gc_X9, Or.inl (gt_of 970 (by decide +kernel) rfl)⟩
theorem fl_X9_32 : FL RX9 32 8 10 := ⟨RX9, TX9, 53, rfl, by decide, gc_X9, Or.inl (gt_of 971 (by decide +kernel) rfl)⟩
theorem fl_X9_35 : FL RX9 35 8 11 := ⟨RX9, TX9, 53, rfl, by decide, gc_X9, Or.inl (gt_of 972 (by decide +kernel) rfl)⟩
theorem fl_X9_38 : FL RX9 38 8 28 := ⟨RX9, TX9, 53, rfl, by decide, gc_X9, Or.inl (gt_of 989 (by decide +kernel) rfl)⟩
theorem fl_X9_41 : FL RX9 41 8 30 := ⟨RX9, TX9, 53, rfl, by decide, gc_X9, Or.inl (gt_of 991 (by decide +kernel) rfl)⟩
theorem fl_X9_44 : FL RX9 44 8 31 := ⟨RX9, TX9, 53, rfl, by decide, gc_X9, Or.inl (gt_of 992 (by decide +kernel) rfl)⟩
theorem fl_X9_47 : FL RX9 47 8 32 := ⟨RX9, TX9, 53, rfl, by decide, gc_X9, Or.inl (gt_of 993 (by decide +kernel) rfl)⟩
theorem fl_X9_50 : FL RX9 50 8 33 := ⟨RX9, TX9, 53, rfl, by decide, gc_X9, Or.inl (gt_of 994 (by decide +kernel) rfl)⟩
theorem fl_X9_53 : FL RX9 53 8 34 := ⟨RX9, TX9, 53, rfl, by decide, gc_X9, Or.inl (gt_of 995 (by decide +kernel) rfl)⟩
theorem fl_X9_56 : FL RX9 56 8 35 := ⟨RX9, TX9, 53, rfl, by decide, gc_X9, Or.inl (gt_of 996 (by decide +kernel) rfl)⟩
theorem fl_X9_59 : FL RX9 59 8 36 := ⟨RX9, TX9, 53, rfl, by decide, gc_X9, Or.inl (gt_of 997 (by decide +kernel) rfl)⟩
theorem fl_X9_62 : FL RX9 62 8 45 := ⟨RX9, TX9, 53, rfl, by decide, gc_X9, Or.inl (gt_of 1006 (by decide +kernel) rfl)⟩
theorem fl_X9_65 : FL RX9 65 8 46 := ⟨RX9, TX9, 53, rfl, by decide, gc_X9, Or.inl (gt_of 1007 (by decide +kernel) rfl)⟩
theorem fl_X9_68 : FL RX9 68 8 47 := ⟨RX9, TX9, 53, rfl, by decide, gc_X9, Or.inl (gt_of 1008 (by decide +kernel) rfl)⟩
theorem fp_X9_68 : FP RX9 68 8 47 .int := ⟨RX9, TX9, 53, tyX9, rfl, by decide, gc_X9, Or.inl (gt_of 1008 (by decide +kernel) rfl), tyX9_ok, nmX9, rfl, by decide +kernel⟩
theorem fl_X9_71 : FL RX9 71 8 49 := ⟨RX9, TX9, 53, rfl, by decide, gc_X9, Or.inl (gt_of 1010 (by decide +kernel) rfl)⟩
theorem fl_X9_75 : FL RX9 75 8 50 := ⟨RX9, TX9, 53, rfl, by decide, gc_X9, Or.inl (gt_of 1011 (by decide +kernel) rfl)⟩
theorem fl_X9_78 : FL RX9 78 8 51 := ⟨RX9, TX9, 53, rfl, by decide, gc_X9, Or.inl (gt_of 1012 (by decide +kernel) rfl)⟩
theorem fl_X9_81 : FL RX9 81 8 52 := ⟨RX9, TX9, 53, rfl, by decide, gc_X9, Or.inl (gt_of 1013 (by decide +kernel) rfl)⟩
theorem fl_X9_88 : FL RX9 88 8 3 := ⟨RX9, TX9, 53, rfl, by decide, gc_X9, Or.inl (gt_of 964 (by decide +kernel) rfl)⟩
theorem fp_X9_88 : FP RX9 88 8 3 .int := ⟨RX9, TX9, 53, tyX9, rfl, by decide, gc_X9, Or.inl (gt_of 964 (by decide +kernel) rfl), tyX9_ok, nmX9, rfl, by decide +kernel⟩
theorem fl_X9_91 : FL RX9 91 8 12 := ⟨RX9, TX9, 53, rfl, by decide, gc_X9, Or.inl (gt_of 973 (by decide +kernel) rfl)⟩
theorem fp_X9_91 : FP RX9 91 8 12 .int := ⟨RX9, TX9, 53, tyX9, rfl, by decide, gc_X9, Or.inl (gt_of 973 (by decide +kernel) rfl), tyX9_ok, nmX9, rfl, by decide +kernel⟩
theorem fl_X9_124 : FL RX9 124 8 6 := ⟨RX9, TX9, 53, rfl, by decide, gc_X9, Or.inl (gt_of 967 (by decide +kernel) rfl)⟩
theorem fp_X9_124 : FP RX9 124 8 6 .int := ⟨RX9, TX9, 53, tyX9, rfl, by decide, gc_X9, Or.inl (gt_of 967 (by decide +kernel) rfl), tyX9_ok, nmX9, rfl, by decide +kernel⟩
theorem fl_X9_127 : FL RX9 127 8 20 := ⟨RX9, TX9, 53, rfl, by decide, gc_X9, Or.inl (gt_of 981 (by decide +kernel) rfl)⟩
theorem fp_X9_127 : FP RX9 127 8 20 .int := ⟨RX9, TX9, 53, tyX9, rfl, by decide, gc_X9, Or.inl (gt_of 981 (by decide +kernel) rfl), tyX9_ok, nmX9, rfl, by decide +kernel⟩
theorem fl_X9_130 : FL RX9 130 8 19 := ⟨RX9, TX9, 53, rfl, by decide, gc_X9, Or.inl (gt_of 980 (by decide +kernel) rfl)⟩
theorem fp_X9_130 : FP RX9 130 8 19 .int := ⟨RX9, TX9, 53, tyX9, rfl, by decide, gc_X9, Or.inl (gt_of 980 (by decide +kernel) rfl), tyX9_ok, nmX9, rfl, by decide +kernel⟩
theorem fl_X9_133 : FL RX9 133 8 21 := ⟨RX9, TX9, 53, rfl, by decide, gc_X9, Or.inl (gt_of 982 (by decide +kernel) rfl)⟩
theorem fp_X9_133 : FP RX9 133 8 21 .int := ⟨RX9, TX9, 53, tyX9, rfl, by decide, gc_X9, Or.inl (gt_of 982 (by decide +kernel) rfl), tyX9_ok, nmX9, rfl, by decide +kernel⟩
theorem fl_X9_139 : FL RX9 139 8 23 := ⟨RX9, TX9, 53, rfl, by decide, gc_X9, Or.inl (gt_of 984 (by decide +kernel) rfl)⟩
theorem fp_X9_139 : FP RX9 139 8 23 .int := ⟨RX9, TX9, 53, tyX9, rfl, by decide, gc_X9, Or.inl (gt_of 984 (by decide +kernel) rfl), tyX9_ok, nmX9, rfl, by decide +kernel⟩
theorem fl_X9_142 : FL RX9 142 8 22 := ⟨RX9, TX9, 53, rfl, by decide, gc_X9, Or.inl (gt_of 983 (by decide +kernel) rfl)⟩
theorem fp_X9_142 : FP RX9 142 8 22 .int := ⟨RX9, TX9, 53, tyX9, rfl, by decide, gc_X9, Or.inl (gt_of 983 (by decide +kernel) rfl), tyX9_ok, nmX9, rfl, by decide +kernel⟩
theorem fl_X9_153 : FL RX9 153 8 24 := ⟨RX9, TX9, 53, rfl, by decide, gc_X9, Or.inl (gt_of 985 (by decide +kernel) rfl)⟩
theorem fp_X9_153 : FP RX9 153 8 24 .long := ⟨RX9, TX9, 53, tyX9, rfl, by decide, gc_X9, Or.inl (gt_of 985 (by decide +kernel) rfl), tyX9_ok, nmX9, rfl, by decide +kernel⟩
theorem fl_X9_159 : FL RX9 159 8 26 := ⟨RX9, TX9, 53, rfl, by decide, gc_X9, Or.inl (gt_of 987 (by decide +kernel) rfl)⟩
theorem fp_X9_159 : FP RX9 159 8 26 .boolean := ⟨RX9, TX9, 53, tyX9, rfl, by decide, gc_X9, Or.inl (gt_of 987 (by decide +kernel) rfl), tyX9_ok, nmX9, rfl, by decide +kernel⟩
theorem fl_X9_163 : FL RX9 163 8 27 := ⟨RX9, TX9, 53, rfl, by decide, gc_X9, Or.inl (gt_of 988 (by decide +kernel) rfl)⟩
theorem fp_X9_163 : FP RX9 163 8 27 .int := ⟨RX9, TX9, 53, tyX9, rfl, by decide, gc_X9, Or.inl (gt_of 988 (by decide +kernel) rfl), tyX9_ok, nmX9, rfl, by decide +kernel⟩
theorem fl_X9_170 : FL RX9 170 8 25 := ⟨RX9, TX9, 53, rfl, by decide, gc_X9, Or.inl (gt_of 986 (by decide +kernel) rfl)⟩
theorem fp_X9_170 : FP RX9 170 8 25 .int := ⟨RX9, TX9, 53, tyX9, rfl, by decide, gc_X9, Or.inl (gt_of 986 (by decide +kernel) rfl), tyX9_ok, nmX9, rfl, by decide +kernel⟩
theorem fl_X9_183 : FL RX9 183 8 13 := ⟨RX9, TX9, 53, rfl, by decide, gc_X9, Or.inl (gt_of 974 (by decide +kernel) rfl)⟩
theorem fp_X9_183 : FP RX9 183 8 13 .int := ⟨RX9, TX9, 53, tyX9, rfl, by decide, gc_X9, Or.inl (gt_of 974 (by decide +kernel) rfl), tyX9_ok, nmX9, rfl, by decide +kernel⟩
theorem fl_X9_186 : FL RX9 186 8 14 := ⟨RX9, TX9, 53, rfl, by decide, gc_X9, Or.inl (gt_of 975 (by decide +kernel) rfl)⟩
theorem fp_X9_186 : FP RX9 186 8 14 .int := ⟨RX9, TX9, 53, tyX9, rfl, by decide, gc_X9, Or.inl (gt_of 975 (by decide +kernel) rfl), tyX9_ok, nmX9, rfl, by decide +kernel⟩
theorem fl_X9_189 : FL RX9 189 8 15 := ⟨RX9, TX9, 53, rfl, by decide, gc_X9, Or.inl (gt_of 976 (by decide +kernel) rfl)⟩
theorem fp_X9_189 : FP RX9 189 8 15 .int := ⟨RX9, TX9, 53, tyX9, rfl, by decide, gc_X9, Or.inl (gt_of 976 (by decide +kernel) rfl), tyX9_ok, nmX9, rfl, by decide +kernel⟩
theorem fl_X9_192 : FL RX9 192 8 16 := ⟨RX9, TX9, 53, rfl, by decide, gc_X9, Or.inl (gt_of 977 (by decide +kernel) rfl)⟩
theorem fp_X9_192 : FP RX9 192 8 16 .int := ⟨RX9, TX9, 53, tyX9, rfl, by decide, gc_X9, Or.inl (gt_of 977 (by decide +kernel) rfl), tyX9_ok, nmX9, rfl, by decide +kernel⟩
theorem fl_X9_195 : FL RX9 195 8 17 := ⟨RX9, TX9, 53, rfl, by decide, gc_X9, Or.inl (gt_of 978 (by decide +kernel) rfl)⟩
theorem fp_X9_195 : FP RX9 195 8 17 .int := ⟨RX9, TX9, 53, tyX9, rfl, by decide, gc_X9, Or.inl (gt_of 978 (by decide +kernel) rfl), tyX9_ok, nmX9, rfl, by decide +kernel⟩
theorem fl_X9_198 : FL RX9 198 8 18 := ⟨RX9, TX9, 53, rfl, by decide, gc_X9, Or.inl (gt_of 979 (by decide +kernel) rfl)⟩
theorem fp_X9_198 : FP RX9 198 8 18 .int := ⟨RX9, TX9, 53, tyX9, rfl, by decide, gc_X9, Or.inl (gt_of 979 (by decide +kernel) rfl), tyX9_ok, nmX9, rfl, by decide +kernel⟩
theorem fl_X9_242 : FL RX9 242 8 4 := ⟨RX9, TX9, 53, rfl, by decide, gc_X9, Or.inl (gt_of 965 (by decide +kernel) rfl)⟩
theorem fp_X9_242 : FP RX9 242 8 4 .int := ⟨RX9, TX9, 53, tyX9, rfl, by decide, gc_X9, Or.inl (gt_of 965 (by decide +kernel) rfl), tyX9_ok, nmX9, rfl, by decide +kernel⟩
theorem fl_X9_253 : FL RX9 253 8 38 := ⟨RX9, TX9, 53, rfl, by decide, gc_X9, Or.inl (gt_of 999 (by decide +kernel) rfl)⟩
theorem fp_X9_253 : FP RX9 253 8 38 .int := ⟨RX9, TX9, 53, tyX9, rfl, by decide, gc_X9, Or.inl (gt_of 999 (by decide +kernel) rfl), tyX9_ok, nmX9, rfl, by decide +kernel⟩
theorem fl_X9_255 : FL RX9 255 8 37 := ⟨RX9, TX9, 53, rfl, by decide, gc_X9, Or.inl (gt_of 998 (by decide +kernel) rfl)⟩
theorem fp_X9_255 : FP RX9 255 8 37 .int := ⟨RX9, TX9, 53, tyX9, rfl, by decide, gc_X9, Or.inl (gt_of 998 (by decide +kernel) rfl), tyX9_ok, nmX9, rfl, by decide +kernel⟩
theorem fl_X9_258 : FL RX9 258 8 41 := ⟨RX9, TX9, 53, rfl, by decide, gc_X9, Or.inl (gt_of 1002 (by decide +kernel) rfl)⟩
theorem fp_X9_258 : FP RX9 258 8 41 .int := ⟨RX9, TX9, 53, tyX9, rfl, by decide, gc_X9, Or.inl (gt_of 1002 (by decide +kernel) rfl), tyX9_ok, nmX9, rfl, by decide +kernel⟩
theorem fl_X9_261 : FL RX9 261 8 39 := ⟨RX9, TX9, 53, rfl, by decide, gc_X9, Or.inl (gt_of 1000 (by decide +kernel) rfl)⟩
theorem fp_X9_261 : FP RX9 261 8 39 .int := ⟨RX9, TX9, 53, tyX9, rfl, by decide, gc_X9, Or.inl (gt_of 1000 (by decide +kernel) rfl), tyX9_ok, nmX9, rfl, by decide +kernel⟩
theorem fl_X9_264 : FL RX9 264 8 40 := ⟨RX9, TX9, 53, rfl, by decide, gc_X9, Or.inl (gt_of 1001 (by decide +kernel) rfl)⟩
theorem fp_X9_264 : FP RX9 264 8 40 .int := ⟨RX9, TX9, 53, tyX9, rfl, by decide, gc_X9, Or.inl (gt_of 1001 (by decide +kernel) rfl), tyX9_ok, nmX9, rfl, by decide +kernel⟩
theorem fl_X9_267 : FL RX9 267 8 29 := ⟨RX9, TX9, 53, rfl, by decide, gc_X9, Or.inl (gt_of 990 (by decide +kernel) rfl)⟩
theorem fp_X9_267 : FP RX9 267 8 29 .int := ⟨RX9, TX9, 53, tyX9, rfl, by decide, gc_X9, Or.inl (gt_of 990 (by decide +kernel) rfl), tyX9_ok, nmX9, rfl, by decide +kernel⟩
theorem fl_X9_309 : FL RX9 309 8 44 := ⟨RX9, TX9, 53, rfl, by decide, gc_X9, Or.inl (gt_of 1005 (by decide +kernel) rfl)⟩
theorem fp_X9_309 : FP RX9 309 8 44 .int := ⟨RX9, TX9, 53, tyX9, rfl, by decide, gc_X9, Or.inl (gt_of 1005 (by decide +kernel) rfl), tyX9_ok, nmX9, rfl, by decide +kernel⟩
theorem fl_X9_312 : FL RX9 312 8 42 := ⟨RX9, TX9, 53, rfl, by decide, gc_X9, Or.inl (gt_of 1003 (by decide +kernel) rfl)⟩
theorem fp_X9_312 : FP RX9 312 8 42 .int := ⟨RX9, TX9, 53, tyX9, rfl, by decide, gc_X9, Or.inl (gt_of 1003 (by decide +kernel) rfl), tyX9_ok, nmX9, rfl, by decide +kernel⟩
theorem fl_X9_315 : FL RX9 315 8 43 := ⟨RX9, TX9, 53, rfl, by decide, gc_X9, Or.inl (gt_of 1004 (by decide +kernel) rfl)⟩
theorem fp_X9_315 : FP RX9 315 8 43 .int := ⟨RX9, TX9, 53, tyX9, rfl, by decide, gc_X9, Or.inl (gt_of 1004 (by decide +kernel) rfl), tyX9_ok, nmX9, rfl, by decide +kernel⟩
theorem fl_X9_359 : FL RX9 359 8 48 := ⟨RX9, TX9, 53, rfl, by decide, gc_X9, Or.inl (gt_of 1009 (by decide +kernel) rfl)⟩
theorem fp_X9_359 : FP RX9 359 8 48 .int := ⟨RX9, TX9, 53, tyX9, rfl, by decide, gc_X9, Or.inl (gt_of 1009 (by decide +kernel) rfl), tyX9_ok, nmX9, rfl, by decide +kernel⟩
theorem fs_X8_92 : Cond.fieldLink RX8 92 "BeforeItGoes" (tnm 0) "[I" ∈ gt ∨ ∃ host : String, Cond.fieldLinkNest RX8 92 "BeforeItGoes" (tnm 0) "[I" host ∈ nw := Or.inl (gt_of 622 (by decide +kernel) rfl)
theorem fs_X8_96 : Cond.fieldLink RX8 96 "BeforeItGoes" (tnm 1) "[I" ∈ gt ∨ ∃ host : String, Cond.fieldLinkNest RX8 96 "BeforeItGoes" (tnm 1) "[I" host ∈ nw := Or.inl (gt_of 624 (by decide +kernel) rfl)
theorem fs_X0_95 : Cond.fieldLink RX0 95 "BeforeItGoes" (tnm 2) "[I" ∈ gt ∨ ∃ host : String, Cond.fieldLinkNest RX0 95 "BeforeItGoes" (tnm 2) "[I" host ∈ nw := Or.inr ⟨"BeforeItGoes", nw_of 681 (by decide +kernel) rfl⟩
theorem fs_X0_98 : Cond.fieldLink RX0 98 "BeforeItGoes" (tnm 3) "[I" ∈ gt ∨ ∃ host : String, Cond.fieldLinkNest RX0 98 "BeforeItGoes" (tnm 3) "[I" host ∈ nw := Or.inr ⟨"BeforeItGoes", nw_of 683 (by decide +kernel) rfl⟩
theorem fs_J0_9 : Cond.fieldLink RJ0 9 "java/lang/String" "value" "[B" ∈ gt := gt_of 1427 (by decide +kernel) rfl
theorem fs_J0_15 : Cond.fieldLink RJ0 15 "java/lang/String" "coder" "B" ∈ gt := gt_of 1428 (by decide +kernel) rfl
theorem fs_J0_38 : Cond.fieldLink RJ0 38 "java/lang/String" "COMPACT_STRINGS" "Z" ∈ gt := gt_of 347 (by decide +kernel) rfl
theorem fs_J0_1053 : Cond.fieldLink RJ0 1053 "jdk/internal/util/Preconditions" "SIOOBE_FORMATTER" "Ljava/util/function/BiFunction;" ∈ gt := gt_of 363 (by decide +kernel) rfl
theorem cn_X8_164 : Cond.constant RX8 164 (-100000) ∈ gt := gt_of 717 (by decide +kernel) rfl
theorem cn_X8_292 : Cond.constant RX8 292 (1103515245) ∈ gt := gt_of 900 (by decide +kernel) rfl
theorem cn_X9_296 : Cond.constant RX9 296 (-100000) ∈ gt := gt_of 1259 (by decide +kernel) rfl
theorem cn_X9_355 : Cond.constant RX9 355 (1103515245) ∈ gt := gt_of 1389 (by decide +kernel) rfl
theorem cn_J11_76 : Cond.constant RJ11 76 (56320) ∈ gt := gt_of 480 (by decide +kernel) rfl
theorem cn_J11_110 : Cond.constant RJ11 110 (55232) ∈ gt := gt_of 476 (by decide +kernel) rfl
theorem cn_J6_265 : Cond.constant RJ6 265 (1431655765) ∈ gt := gt_of 829 (by decide +kernel) rfl
theorem cn_J6_266 : Cond.constant RJ6 266 (858993459) ∈ gt := gt_of 830 (by decide +kernel) rfl
theorem cn_J6_267 : Cond.constant RJ6 267 (252645135) ∈ gt := gt_of 831 (by decide +kernel) rfl
theorem cn_J2_227 : Cond.constant RJ2 227 (65536) ∈ gt := gt_of 451 (by decide +kernel) rfl
theorem cl_X8_276 : Cond.constantLong RX8 276 (-4611686018427387904) ∈ gt := gt_of 876 (by decide +kernel) rfl
theorem cl_X9_98 : Cond.constantLong RX9 98 (8) ∈ gt := gt_of 1126 (by decide +kernel) rfl
theorem cl_X9_104 : Cond.constantLong RX9 104 (5) ∈ gt := gt_of 1138 (by decide +kernel) rfl
theorem cl_X9_106 : Cond.constantLong RX9 106 (9) ∈ gt := gt_of 1139 (by decide +kernel) rfl
theorem cl_X9_108 : Cond.constantLong RX9 108 (20) ∈ gt := gt_of 1140 (by decide +kernel) rfl
theorem cl_X9_110 : Cond.constantLong RX9 110 (6) ∈ gt := gt_of 1145 (by decide +kernel) rfl
theorem cl_X9_122 : Cond.constantLong RX9 122 (255) ∈ gt := gt_of 1240 (by decide +kernel) rfl
theorem cl_X9_145 : Cond.constantLong RX9 145 (97) ∈ gt := gt_of 1166 (by decide +kernel) rfl
theorem cl_X9_147 : Cond.constantLong RX9 147 (122) ∈ gt := gt_of 1167 (by decide +kernel) rfl
theorem cl_X9_149 : Cond.constantLong RX9 149 (48) ∈ gt := gt_of 1168 (by decide +kernel) rfl
theorem cl_X9_151 : Cond.constantLong RX9 151 (57) ∈ gt := gt_of 1169 (by decide +kernel) rfl
theorem cl_X9_157 : Cond.constantLong RX9 157 (10) ∈ gt := gt_of 1170 (by decide +kernel) rfl
theorem cl_X9_221 : Cond.constantLong RX9 221 (43) ∈ gt := gt_of 1223 (by decide +kernel) rfl
theorem cl_X9_229 : Cond.constantLong RX9 229 (60) ∈ gt := gt_of 1224 (by decide +kernel) rfl
theorem cl_X9_286 : Cond.constantLong RX9 286 (4) ∈ gt := gt_of 1257 (by decide +kernel) rfl
theorem cl_X9_288 : Cond.constantLong RX9 288 (49) ∈ gt := gt_of 1258 (by decide +kernel) rfl
theorem cl_X9_322 : Cond.constantLong RX9 322 (2) ∈ gt := gt_of 1308 (by decide +kernel) rfl
theorem cl_X9_324 : Cond.constantLong RX9 324 (99) ∈ gt := gt_of 1321 (by decide +kernel) rfl
theorem cl_X9_335 : Cond.constantLong RX9 335 (40) ∈ gt := gt_of 1349 (by decide +kernel) rfl
theorem cl_X9_337 : Cond.constantLong RX9 337 (3) ∈ gt := gt_of 1299 (by decide +kernel) rfl
theorem cl_X9_339 : Cond.constantLong RX9 339 (15) ∈ gt := gt_of 1354 (by decide +kernel) rfl
theorem cl_X9_350 : Cond.constantLong RX9 350 (-4611686018427387904) ∈ gt := gt_of 1371 (by decide +kernel) rfl
theorem cl_X9_362 : Cond.constantLong RX9 362 (-1) ∈ gt := gt_of 1380 (by decide +kernel) rfl
set_option maxRecDepth 100000 in
theorem co_J0_length_8abf5 : Cond.code yJ0_length_8abf5 cJ0_length_8abf5 1 (some .int) ∈ gt := gt_of 342 rfl rfl
theorem ins_J0_length_8abf5 : Cond.instanceMethod yJ0_length_8abf5 ∈ gt := gt_of 340 (by decide +kernel) rfl
theorem sel_J0_length_8abf5 : Cond.selects (yJ0_length_8abf5).cls yJ0_length_8abf5 yJ0_length_8abf5 ∈ gt := gt_of 341 (by decide +kernel) rfl
theorem ini_J0 : Cond.initialized RJ0 ∈ gt := gt_of 90 (by decide +kernel) rfl
theorem mv_X8_75 : MV RX8 75 yJ0_length_8abf5 cJ0_length_8abf5 1 (some .int) 0 := ⟨Or.inl (gt_of 339 (by decide +kernel) rfl), ins_J0_length_8abf5, sel_J0_length_8abf5, ini_J0, co_J0_length_8abf5, ⟨by decide +kernel, by decide +kernel, by decide +kernel⟩, by decide⟩
set_option maxRecDepth 100000 in
theorem co_J0_charAt_5068e : Cond.code yJ0_charAt_5068e cJ0_charAt_5068e 2 (some .char) ∈ gt := gt_of 352 rfl rfl
theorem ins_J0_charAt_5068e : Cond.instanceMethod yJ0_charAt_5068e ∈ gt := gt_of 350 (by decide +kernel) rfl
theorem sel_J0_charAt_5068e : Cond.selects (yJ0_charAt_5068e).cls yJ0_charAt_5068e yJ0_charAt_5068e ∈ gt := gt_of 351 (by decide +kernel) rfl
theorem mv_X8_81 : MV RX8 81 yJ0_charAt_5068e cJ0_charAt_5068e 2 (some .char) 1 := ⟨Or.inl (gt_of 349 (by decide +kernel) rfl), ins_J0_charAt_5068e, sel_J0_charAt_5068e, ini_J0, co_J0_charAt_5068e, ⟨by decide +kernel, by decide +kernel, by decide +kernel⟩, by decide⟩
set_option maxRecDepth 100000 in
theorem co_X6_add : Cond.code yX6_add cX6_add 2 (some .int) ∈ gt := gt_of 390 rfl rfl
theorem ins_X6_add : Cond.instanceMethod yX6_add ∈ gt := gt_of 388 (by decide +kernel) rfl
theorem sel_X6_add : Cond.selects (yX6_add).cls yX6_add yX6_add ∈ gt := gt_of 389 (by decide +kernel) rfl
theorem ini_X6 : Cond.initialized RX6 ∈ gt := gt_of 84 (by decide +kernel) rfl
theorem mv_X8_85 : MV RX8 85 yX6_add cX6_add 2 (some .int) 1 := ⟨Or.inl (gt_of 387 (by decide +kernel) rfl), ins_X6_add, sel_X6_add, ini_X6, co_X6_add, ⟨by decide +kernel, by decide +kernel, by decide +kernel⟩, by decide⟩
set_option maxRecDepth 100000 in
theorem co_X8_learn : Cond.code yX8_learn cX8_learn 2 (some .int) ∈ gt := gt_of 394 rfl rfl
theorem ins_X8_learn : Cond.instanceMethod yX8_learn ∈ gt := gt_of 393 (by decide +kernel) rfl
theorem sel_X8_learn : Cond.selects (yX8_learn).cls yX8_learn yX8_learn ∈ gt := gt_of 0 (by decide +kernel) rfl
theorem ini_X8 : Cond.initialized RX8 ∈ gt := gt_of 82 (by decide +kernel) rfl
theorem mv_X8_89 : MV RX8 89 yX8_learn cX8_learn 2 (some .int) 0 := ⟨Or.inl (gt_of 391 (by decide +kernel) rfl), ins_X8_learn, sel_X8_learn, ini_X8, co_X8_learn, ⟨by decide +kernel, by decide +kernel, by decide +kernel⟩, by decide⟩
set_option maxRecDepth 100000 in
theorem co_X5_has : Cond.code yX5_has cX5_has 2 (some .boolean) ∈ gt := gt_of 629 rfl rfl
theorem ins_X5_has : Cond.instanceMethod yX5_has ∈ gt := gt_of 627 (by decide +kernel) rfl
theorem sel_X5_has : Cond.selects (yX5_has).cls yX5_has yX5_has ∈ gt := gt_of 628 (by decide +kernel) rfl
theorem ini_X5 : Cond.initialized RX5 ∈ gt := gt_of 83 (by decide +kernel) rfl
theorem mv_X8_99 : MV RX8 99 yX5_has cX5_has 2 (some .boolean) 1 := ⟨Or.inl (gt_of 626 (by decide +kernel) rfl), ins_X5_has, sel_X5_has, ini_X5, co_X5_has, ⟨by decide +kernel, by decide +kernel, by decide +kernel⟩, by decide⟩
set_option maxRecDepth 100000 in
theorem co_X5_rowOf : Cond.code yX5_rowOf cX5_rowOf 2 (some (.array .int)) ∈ gt := gt_of 633 rfl rfl
theorem ins_X5_rowOf : Cond.instanceMethod yX5_rowOf ∈ gt := gt_of 631 (by decide +kernel) rfl
theorem sel_X5_rowOf : Cond.selects (yX5_rowOf).cls yX5_rowOf yX5_rowOf ∈ gt := gt_of 632 (by decide +kernel) rfl
theorem mv_X8_103 : MV RX8 103 yX5_rowOf cX5_rowOf 2 (some (.array .int)) 1 := ⟨Or.inl (gt_of 630 (by decide +kernel) rfl), ins_X5_rowOf, sel_X5_rowOf, ini_X5, co_X5_rowOf, ⟨by decide +kernel, by decide +kernel, by decide +kernel⟩, by decide⟩
set_option maxRecDepth 100000 in
theorem co_X8_isKind : Cond.code yX8_isKind cX8_isKind 1 (some .boolean) ∈ gt := gt_of 640 rfl rfl
theorem sta_X8_isKind : Cond.static yX8_isKind ∈ gt := gt_of 639 (by decide +kernel) rfl
theorem ms_X8_107 : MS RX8 107 yX8_isKind cX8_isKind 1 (some .boolean) 1 := ⟨Or.inl (gt_of 638 (by decide +kernel) rfl), sta_X8_isKind, ini_X8, co_X8_isKind, ⟨by decide +kernel, by decide +kernel, by decide +kernel⟩, by decide⟩
set_option maxRecDepth 100000 in
theorem co_X5_add : Cond.code yX5_add cX5_add 4 (some .int) ∈ gt := gt_of 644 rfl rfl
theorem ins_X5_add : Cond.instanceMethod yX5_add ∈ gt := gt_of 642 (by decide +kernel) rfl
theorem sel_X5_add : Cond.selects (yX5_add).cls yX5_add yX5_add ∈ gt := gt_of 643 (by decide +kernel) rfl
theorem mv_X8_110 : MV RX8 110 yX5_add cX5_add 4 (some .int) 3 := ⟨Or.inl (gt_of 641 (by decide +kernel) rfl), ins_X5_add, sel_X5_add, ini_X5, co_X5_add, ⟨by decide +kernel, by decide +kernel, by decide +kernel⟩, by decide⟩
set_option maxRecDepth 100000 in
theorem co_X8_reckoned : Cond.code yX8_reckoned cX8_reckoned 3 (some .int) ∈ gt := gt_of 652 rfl rfl
theorem ins_X8_reckoned : Cond.instanceMethod yX8_reckoned ∈ gt := gt_of 651 (by decide +kernel) rfl
theorem sel_X8_reckoned : Cond.selects (yX8_reckoned).cls yX8_reckoned yX8_reckoned ∈ gt := gt_of 21 (by decide +kernel) rfl
theorem mv_X8_125 : MV RX8 125 yX8_reckoned cX8_reckoned 3 (some .int) 2 := ⟨Or.inl (gt_of 649 (by decide +kernel) rfl), ins_X8_reckoned, sel_X8_reckoned, ini_X8, co_X8_reckoned, ⟨by decide +kernel, by decide +kernel, by decide +kernel⟩, by decide⟩
set_option maxRecDepth 100000 in
theorem co_X8_startTrial : Cond.code yX8_startTrial cX8_startTrial 2 none ∈ gt := gt_of 656 rfl rfl
theorem ins_X8_startTrial : Cond.instanceMethod yX8_startTrial ∈ gt := gt_of 655 (by decide +kernel) rfl
theorem sel_X8_startTrial : Cond.selects (yX8_startTrial).cls yX8_startTrial yX8_startTrial ∈ gt := gt_of 22 (by decide +kernel) rfl
theorem mv_X8_129 : MV RX8 129 yX8_startTrial cX8_startTrial 2 none 0 := ⟨Or.inl (gt_of 653 (by decide +kernel) rfl), ins_X8_startTrial, sel_X8_startTrial, ini_X8, co_X8_startTrial, ⟨by decide +kernel, by decide +kernel, by decide +kernel⟩, by decide⟩
set_option maxRecDepth 100000 in
theorem co_X0_reckon : Cond.code yX0_reckon cX0_reckon 4 none ∈ gt := gt_of 668 rfl rfl
theorem ins_X0_reckon : Cond.instanceMethod yX0_reckon ∈ gt := gt_of 666 (by decide +kernel) rfl
theorem sel_X0_reckon : Cond.selects (yX0_reckon).cls yX0_reckon yX0_reckon ∈ gt := gt_of 667 (by decide +kernel) rfl
theorem ini_X0 : Cond.initialized RX0 ∈ gt := gt_of 87 (by decide +kernel) rfl
theorem mv_X8_132 : MV RX8 132 yX0_reckon cX0_reckon 4 none 0 := ⟨Or.inl (gt_of 665 (by decide +kernel) rfl), ins_X0_reckon, sel_X0_reckon, ini_X0, co_X0_reckon, ⟨by decide +kernel, by decide +kernel, by decide +kernel⟩, by decide⟩
set_option maxRecDepth 100000 in
theorem co_X3_read : Cond.code yX3_read cX3_read 2 (some .int) ∈ gt := gt_of 398 rfl rfl
theorem ins_X3_read : Cond.instanceMethod yX3_read ∈ gt := gt_of 396 (by decide +kernel) rfl
theorem sel_X3_read : Cond.selects (yX3_read).cls yX3_read yX3_read ∈ gt := gt_of 397 (by decide +kernel) rfl
theorem ini_X3 : Cond.initialized RX3 ∈ gt := gt_of 85 (by decide +kernel) rfl
theorem mv_X8_144 : MV RX8 144 yX3_read cX3_read 2 (some .int) 0 := ⟨Or.inl (gt_of 395 (by decide +kernel) rfl), ins_X3_read, sel_X3_read, ini_X3, co_X3_read, ⟨by decide +kernel, by decide +kernel, by decide +kernel⟩, by decide⟩
set_option maxRecDepth 100000 in
theorem co_X6_clear : Cond.code yX6_clear cX6_clear 1 none ∈ gt := gt_of 581 rfl rfl
theorem ins_X6_clear : Cond.instanceMethod yX6_clear ∈ gt := gt_of 579 (by decide +kernel) rfl
theorem sel_X6_clear : Cond.selects (yX6_clear).cls yX6_clear yX6_clear ∈ gt := gt_of 580 (by decide +kernel) rfl
theorem mv_X8_147 : MV RX8 147 yX6_clear cX6_clear 1 none 0 := ⟨Or.inl (gt_of 578 (by decide +kernel) rfl), ins_X6_clear, sel_X6_clear, ini_X6, co_X6_clear, ⟨by decide +kernel, by decide +kernel, by decide +kernel⟩, by decide⟩
set_option maxRecDepth 100000 in
theorem co_X7_become : Cond.code yX7_become cX7_become 3 none ∈ gt := gt_of 585 rfl rfl
theorem ins_X7_become : Cond.instanceMethod yX7_become ∈ gt := gt_of 583 (by decide +kernel) rfl
theorem sel_X7_become : Cond.selects (yX7_become).cls yX7_become yX7_become ∈ gt := gt_of 584 (by decide +kernel) rfl
theorem ini_X7 : Cond.initialized RX7 ∈ gt := gt_of 86 (by decide +kernel) rfl
theorem mv_X8_154 : MV RX8 154 yX7_become cX7_become 3 none 1 := ⟨Or.inl (gt_of 582 (by decide +kernel) rfl), ins_X7_become, sel_X7_become, ini_X7, co_X7_become, ⟨by decide +kernel, by decide +kernel, by decide +kernel⟩, by decide⟩
set_option maxRecDepth 100000 in
theorem co_X8_isOfDay : Cond.code yX8_isOfDay cX8_isOfDay 2 (some .boolean) ∈ gt := gt_of 716 rfl rfl
theorem ins_X8_isOfDay : Cond.instanceMethod yX8_isOfDay ∈ gt := gt_of 715 (by decide +kernel) rfl
theorem sel_X8_isOfDay : Cond.selects (yX8_isOfDay).cls yX8_isOfDay yX8_isOfDay ∈ gt := gt_of 24 (by decide +kernel) rfl
theorem mv_X8_161 : MV RX8 161 yX8_isOfDay cX8_isOfDay 2 (some .boolean) 1 := ⟨Or.inl (gt_of 713 (by decide +kernel) rfl), ins_X8_isOfDay, sel_X8_isOfDay, ini_X8, co_X8_isOfDay, ⟨by decide +kernel, by decide +kernel, by decide +kernel⟩, by decide⟩
set_option maxRecDepth 100000 in
theorem co_X0_live : Cond.code yX0_live cX0_live 3 none ∈ gt := gt_of 721 rfl rfl
theorem ins_X0_live : Cond.instanceMethod yX0_live ∈ gt := gt_of 719 (by decide +kernel) rfl
theorem sel_X0_live : Cond.selects (yX0_live).cls yX0_live yX0_live ∈ gt := gt_of 720 (by decide +kernel) rfl
theorem mv_X8_165 : MV RX8 165 yX0_live cX0_live 3 none 0 := ⟨Or.inl (gt_of 718 (by decide +kernel) rfl), ins_X0_live, sel_X0_live, ini_X0, co_X0_live, ⟨by decide +kernel, by decide +kernel, by decide +kernel⟩, by decide⟩
set_option maxRecDepth 100000 in
theorem co_X8_ofDay : Cond.code yX8_ofDay cX8_ofDay 2 (some .int) ∈ gt := gt_of 753 rfl rfl
theorem ins_X8_ofDay : Cond.instanceMethod yX8_ofDay ∈ gt := gt_of 752 (by decide +kernel) rfl
theorem sel_X8_ofDay : Cond.selects (yX8_ofDay).cls yX8_ofDay yX8_ofDay ∈ gt := gt_of 32 (by decide +kernel) rfl
theorem mv_X8_168 : MV RX8 168 yX8_ofDay cX8_ofDay 2 (some .int) 1 := ⟨Or.inl (gt_of 750 (by decide +kernel) rfl), ins_X8_ofDay, sel_X8_ofDay, ini_X8, co_X8_ofDay, ⟨by decide +kernel, by decide +kernel, by decide +kernel⟩, by decide⟩
set_option maxRecDepth 100000 in
theorem co_X8_sheetAt : Cond.code yX8_sheetAt cX8_sheetAt 2 (some (.object "BeforeItGoes$Sheet")) ∈ gt := gt_of 773 rfl rfl
theorem ins_X8_sheetAt : Cond.instanceMethod yX8_sheetAt ∈ gt := gt_of 772 (by decide +kernel) rfl
theorem sel_X8_sheetAt : Cond.selects (yX8_sheetAt).cls yX8_sheetAt yX8_sheetAt ∈ gt := gt_of 34 (by decide +kernel) rfl
theorem mv_X8_171 : MV RX8 171 yX8_sheetAt cX8_sheetAt 2 (some (.object "BeforeItGoes$Sheet")) 1 := ⟨Or.inl (gt_of 770 (by decide +kernel) rfl), ins_X8_sheetAt, sel_X8_sheetAt, ini_X8, co_X8_sheetAt, ⟨by decide +kernel, by decide +kernel, by decide +kernel⟩, by decide⟩
set_option maxRecDepth 100000 in
theorem co_X8_startOrder : Cond.code yX8_startOrder cX8_startOrder 5 (some .boolean) ∈ gt := gt_of 777 rfl rfl
theorem ins_X8_startOrder : Cond.instanceMethod yX8_startOrder ∈ gt := gt_of 776 (by decide +kernel) rfl
theorem sel_X8_startOrder : Cond.selects (yX8_startOrder).cls yX8_startOrder yX8_startOrder ∈ gt := gt_of 35 (by decide +kernel) rfl
theorem mv_X8_175 : MV RX8 175 yX8_startOrder cX8_startOrder 5 (some .boolean) 1 := ⟨Or.inl (gt_of 774 (by decide +kernel) rfl), ins_X8_startOrder, sel_X8_startOrder, ini_X8, co_X8_startOrder, ⟨by decide +kernel, by decide +kernel, by decide +kernel⟩, by decide⟩
set_option maxRecDepth 100000 in
theorem co_X4_isMissing : Cond.code yX4_isMissing cX4_isMissing 1 (some .boolean) ∈ gt := gt_of 781 rfl rfl
theorem ins_X4_isMissing : Cond.instanceMethod yX4_isMissing ∈ gt := gt_of 779 (by decide +kernel) rfl
theorem sel_X4_isMissing : Cond.selects (yX4_isMissing).cls yX4_isMissing yX4_isMissing ∈ gt := gt_of 780 (by decide +kernel) rfl
theorem ini_X4 : Cond.initialized RX4 ∈ gt := gt_of 89 (by decide +kernel) rfl
theorem mv_X8_179 : MV RX8 179 yX4_isMissing cX4_isMissing 1 (some .boolean) 0 := ⟨Or.inl (gt_of 778 (by decide +kernel) rfl), ins_X4_isMissing, sel_X4_isMissing, ini_X4, co_X4_isMissing, ⟨by decide +kernel, by decide +kernel, by decide +kernel⟩, by decide⟩
set_option maxRecDepth 100000 in
theorem co_X0_place : Cond.code yX0_place cX0_place 3 none ∈ gt := gt_of 664 rfl rfl
theorem ins_X0_place : Cond.instanceMethod yX0_place ∈ gt := gt_of 662 (by decide +kernel) rfl
theorem sel_X0_place : Cond.selects (yX0_place).cls yX0_place yX0_place ∈ gt := gt_of 663 (by decide +kernel) rfl
theorem mv_X8_190 : MV RX8 190 yX0_place cX0_place 3 none 2 := ⟨Or.inl (gt_of 661 (by decide +kernel) rfl), ins_X0_place, sel_X0_place, ini_X0, co_X0_place, ⟨by decide +kernel, by decide +kernel, by decide +kernel⟩, by decide⟩
set_option maxRecDepth 100000 in
theorem co_X0_late : Cond.code yX0_late cX0_late 3 (some .int) ∈ gt := gt_of 757 rfl rfl
theorem ins_X0_late : Cond.instanceMethod yX0_late ∈ gt := gt_of 755 (by decide +kernel) rfl
theorem sel_X0_late : Cond.selects (yX0_late).cls yX0_late yX0_late ∈ gt := gt_of 756 (by decide +kernel) rfl
theorem mv_X8_203 : MV RX8 203 yX0_late cX0_late 3 (some .int) 0 := ⟨Or.inl (gt_of 754 (by decide +kernel) rfl), ins_X0_late, sel_X0_late, ini_X0, co_X0_late, ⟨by decide +kernel, by decide +kernel, by decide +kernel⟩, by decide⟩
set_option maxRecDepth 100000 in
theorem co_X0_early : Cond.code yX0_early cX0_early 3 (some .int) ∈ gt := gt_of 761 rfl rfl
theorem ins_X0_early : Cond.instanceMethod yX0_early ∈ gt := gt_of 759 (by decide +kernel) rfl
theorem sel_X0_early : Cond.selects (yX0_early).cls yX0_early yX0_early ∈ gt := gt_of 760 (by decide +kernel) rfl
theorem mv_X8_206 : MV RX8 206 yX0_early cX0_early 3 (some .int) 0 := ⟨Or.inl (gt_of 758 (by decide +kernel) rfl), ins_X0_early, sel_X0_early, ini_X0, co_X0_early, ⟨by decide +kernel, by decide +kernel, by decide +kernel⟩, by decide⟩
set_option maxRecDepth 100000 in
theorem co_X8_ofWallsDay : Cond.code yX8_ofWallsDay cX8_ofWallsDay 3 (some .int) ∈ gt := gt_of 765 rfl rfl
theorem ins_X8_ofWallsDay : Cond.instanceMethod yX8_ofWallsDay ∈ gt := gt_of 764 (by decide +kernel) rfl
theorem sel_X8_ofWallsDay : Cond.selects (yX8_ofWallsDay).cls yX8_ofWallsDay yX8_ofWallsDay ∈ gt := gt_of 33 (by decide +kernel) rfl
theorem mv_X8_209 : MV RX8 209 yX8_ofWallsDay cX8_ofWallsDay 3 (some .int) 2 := ⟨Or.inl (gt_of 762 (by decide +kernel) rfl), ins_X8_ofWallsDay, sel_X8_ofWallsDay, ini_X8, co_X8_ofWallsDay, ⟨by decide +kernel, by decide +kernel, by decide +kernel⟩, by decide⟩
set_option maxRecDepth 100000 in
theorem co_X5_become : Cond.code yX5_become cX5_become 3 none ∈ gt := gt_of 660 rfl rfl
theorem ins_X5_become : Cond.instanceMethod yX5_become ∈ gt := gt_of 658 (by decide +kernel) rfl
theorem sel_X5_become : Cond.selects (yX5_become).cls yX5_become yX5_become ∈ gt := gt_of 659 (by decide +kernel) rfl
theorem mv_X8_225 : MV RX8 225 yX5_become cX5_become 3 none 1 := ⟨Or.inl (gt_of 657 (by decide +kernel) rfl), ins_X5_become, sel_X5_become, ini_X5, co_X5_become, ⟨by decide +kernel, by decide +kernel, by decide +kernel⟩, by decide⟩
set_option maxRecDepth 100000 in
theorem co_X5_turn : Cond.code yX5_turn cX5_turn 3 none ∈ gt := gt_of 817 rfl rfl
theorem ins_X5_turn : Cond.instanceMethod yX5_turn ∈ gt := gt_of 815 (by decide +kernel) rfl
theorem sel_X5_turn : Cond.selects (yX5_turn).cls yX5_turn yX5_turn ∈ gt := gt_of 816 (by decide +kernel) rfl
theorem mv_X8_228 : MV RX8 228 yX5_turn cX5_turn 3 none 2 := ⟨Or.inl (gt_of 814 (by decide +kernel) rfl), ins_X5_turn, sel_X5_turn, ini_X5, co_X5_turn, ⟨by decide +kernel, by decide +kernel, by decide +kernel⟩, by decide⟩
set_option maxRecDepth 100000 in
theorem co_X2_clear : Cond.code yX2_clear cX2_clear 1 none ∈ gt := gt_of 789 rfl rfl
theorem ins_X2_clear : Cond.instanceMethod yX2_clear ∈ gt := gt_of 787 (by decide +kernel) rfl
theorem sel_X2_clear : Cond.selects (yX2_clear).cls yX2_clear yX2_clear ∈ gt := gt_of 788 (by decide +kernel) rfl
theorem ini_X2 : Cond.initialized RX2 ∈ gt := gt_of 88 (by decide +kernel) rfl
theorem mv_X8_231 : MV RX8 231 yX2_clear cX2_clear 1 none 0 := ⟨Or.inl (gt_of 786 (by decide +kernel) rfl), ins_X2_clear, sel_X2_clear, ini_X2, co_X2_clear, ⟨by decide +kernel, by decide +kernel, by decide +kernel⟩, by decide⟩
set_option maxRecDepth 100000 in
theorem co_X0_rowAsDigits : Cond.code yX0_rowAsDigits cX0_rowAsDigits 3 (some .int) ∈ gt := gt_of 793 rfl rfl
theorem ins_X0_rowAsDigits : Cond.instanceMethod yX0_rowAsDigits ∈ gt := gt_of 791 (by decide +kernel) rfl
theorem sel_X0_rowAsDigits : Cond.selects (yX0_rowAsDigits).cls yX0_rowAsDigits yX0_rowAsDigits ∈ gt := gt_of 792 (by decide +kernel) rfl
theorem mv_X8_232 : MV RX8 232 yX0_rowAsDigits cX0_rowAsDigits 3 (some .int) 0 := ⟨Or.inl (gt_of 790 (by decide +kernel) rfl), ins_X0_rowAsDigits, sel_X0_rowAsDigits, ini_X0, co_X0_rowAsDigits, ⟨by decide +kernel, by decide +kernel, by decide +kernel⟩, by decide⟩
set_option maxRecDepth 100000 in
theorem co_X2_offer : Cond.code yX2_offer cX2_offer 4 none ∈ gt := gt_of 797 rfl rfl
theorem ins_X2_offer : Cond.instanceMethod yX2_offer ∈ gt := gt_of 795 (by decide +kernel) rfl
theorem sel_X2_offer : Cond.selects (yX2_offer).cls yX2_offer yX2_offer ∈ gt := gt_of 796 (by decide +kernel) rfl
theorem mv_X8_235 : MV RX8 235 yX2_offer cX2_offer 4 none 3 := ⟨Or.inl (gt_of 794 (by decide +kernel) rfl), ins_X2_offer, sel_X2_offer, ini_X2, co_X2_offer, ⟨by decide +kernel, by decide +kernel, by decide +kernel⟩, by decide⟩
set_option maxRecDepth 100000 in
theorem co_X0_nextRow : Cond.code yX0_nextRow cX0_nextRow 6 (some .boolean) ∈ gt := gt_of 801 rfl rfl
theorem ins_X0_nextRow : Cond.instanceMethod yX0_nextRow ∈ gt := gt_of 799 (by decide +kernel) rfl
theorem sel_X0_nextRow : Cond.selects (yX0_nextRow).cls yX0_nextRow yX0_nextRow ∈ gt := gt_of 800 (by decide +kernel) rfl
theorem mv_X8_239 : MV RX8 239 yX0_nextRow cX0_nextRow 6 (some .boolean) 0 := ⟨Or.inl (gt_of 798 (by decide +kernel) rfl), ins_X0_nextRow, sel_X0_nextRow, ini_X0, co_X0_nextRow, ⟨by decide +kernel, by decide +kernel, by decide +kernel⟩, by decide⟩
set_option maxRecDepth 100000 in
theorem co_X8_liveWith : Cond.code yX8_liveWith cX8_liveWith 3 none ∈ gt := gt_of 813 rfl rfl
theorem ins_X8_liveWith : Cond.instanceMethod yX8_liveWith ∈ gt := gt_of 812 (by decide +kernel) rfl
theorem sel_X8_liveWith : Cond.selects (yX8_liveWith).cls yX8_liveWith yX8_liveWith ∈ gt := gt_of 37 (by decide +kernel) rfl
theorem mv_X8_249 : MV RX8 249 yX8_liveWith cX8_liveWith 3 none 2 := ⟨Or.inl (gt_of 810 (by decide +kernel) rfl), ins_X8_liveWith, sel_X8_liveWith, ini_X8, co_X8_liveWith, ⟨by decide +kernel, by decide +kernel, by decide +kernel⟩, by decide⟩
set_option maxRecDepth 100000 in
theorem co_X5_wetJust : Cond.code yX5_wetJust cX5_wetJust 3 none ∈ gt := gt_of 825 rfl rfl
theorem ins_X5_wetJust : Cond.instanceMethod yX5_wetJust ∈ gt := gt_of 823 (by decide +kernel) rfl
theorem sel_X5_wetJust : Cond.selects (yX5_wetJust).cls yX5_wetJust yX5_wetJust ∈ gt := gt_of 824 (by decide +kernel) rfl
theorem mv_X8_252 : MV RX8 252 yX5_wetJust cX5_wetJust 3 none 1 := ⟨Or.inl (gt_of 822 (by decide +kernel) rfl), ins_X5_wetJust, sel_X5_wetJust, ini_X5, co_X5_wetJust, ⟨by decide +kernel, by decide +kernel, by decide +kernel⟩, by decide⟩
set_option maxRecDepth 100000 in
theorem co_J6_bitCount_0f7a4 : Cond.code yJ6_bitCount_0f7a4 cJ6_bitCount_0f7a4 1 (some .int) ∈ gt := gt_of 828 rfl rfl
theorem sta_J6_bitCount_0f7a4 : Cond.static yJ6_bitCount_0f7a4 ∈ gt := gt_of 827 (by decide +kernel) rfl
theorem ini_J6 : Cond.initialized RJ6 ∈ gt := gt_of 98 (by decide +kernel) rfl
theorem ms_X8_256 : MS RX8 256 yJ6_bitCount_0f7a4 cJ6_bitCount_0f7a4 1 (some .int) 1 := ⟨Or.inl (gt_of 826 (by decide +kernel) rfl), sta_J6_bitCount_0f7a4, ini_J6, co_J6_bitCount_0f7a4, ⟨by decide +kernel, by decide +kernel, by decide +kernel⟩, by decide⟩
set_option maxRecDepth 100000 in
theorem co_X8_notSo : Cond.code yX8_notSo cX8_notSo 2 (some .int) ∈ gt := gt_of 855 rfl rfl
theorem ins_X8_notSo : Cond.instanceMethod yX8_notSo ∈ gt := gt_of 854 (by decide +kernel) rfl
theorem sel_X8_notSo : Cond.selects (yX8_notSo).cls yX8_notSo yX8_notSo ∈ gt := gt_of 38 (by decide +kernel) rfl
theorem mv_X8_261 : MV RX8 261 yX8_notSo cX8_notSo 2 (some .int) 1 := ⟨Or.inl (gt_of 852 (by decide +kernel) rfl), ins_X8_notSo, sel_X8_notSo, ini_X8, co_X8_notSo, ⟨by decide +kernel, by decide +kernel, by decide +kernel⟩, by decide⟩
set_option maxRecDepth 100000 in
theorem co_X8_dialsOf : Cond.code yX8_dialsOf cX8_dialsOf 6 (some .long) ∈ gt := gt_of 863 rfl rfl
theorem ins_X8_dialsOf : Cond.instanceMethod yX8_dialsOf ∈ gt := gt_of 862 (by decide +kernel) rfl
theorem sel_X8_dialsOf : Cond.selects (yX8_dialsOf).cls yX8_dialsOf yX8_dialsOf ∈ gt := gt_of 39 (by decide +kernel) rfl
theorem mv_X8_265 : MV RX8 265 yX8_dialsOf cX8_dialsOf 6 (some .long) 2 := ⟨Or.inl (gt_of 860 (by decide +kernel) rfl), ins_X8_dialsOf, sel_X8_dialsOf, ini_X8, co_X8_dialsOf, ⟨by decide +kernel, by decide +kernel, by decide +kernel⟩, by decide⟩
set_option maxRecDepth 100000 in
theorem co_X8_textsOf : Cond.code yX8_textsOf cX8_textsOf 4 (some .int) ∈ gt := gt_of 867 rfl rfl
theorem ins_X8_textsOf : Cond.instanceMethod yX8_textsOf ∈ gt := gt_of 866 (by decide +kernel) rfl
theorem sel_X8_textsOf : Cond.selects (yX8_textsOf).cls yX8_textsOf yX8_textsOf ∈ gt := gt_of 40 (by decide +kernel) rfl
theorem mv_X8_269 : MV RX8 269 yX8_textsOf cX8_textsOf 4 (some .int) 1 := ⟨Or.inl (gt_of 864 (by decide +kernel) rfl), ins_X8_textsOf, sel_X8_textsOf, ini_X8, co_X8_textsOf, ⟨by decide +kernel, by decide +kernel, by decide +kernel⟩, by decide⟩
set_option maxRecDepth 100000 in
theorem co_X8_kindsOf : Cond.code yX8_kindsOf cX8_kindsOf 5 (some .int) ∈ gt := gt_of 871 rfl rfl
theorem ins_X8_kindsOf : Cond.instanceMethod yX8_kindsOf ∈ gt := gt_of 870 (by decide +kernel) rfl
theorem sel_X8_kindsOf : Cond.selects (yX8_kindsOf).cls yX8_kindsOf yX8_kindsOf ∈ gt := gt_of 41 (by decide +kernel) rfl
theorem mv_X8_272 : MV RX8 272 yX8_kindsOf cX8_kindsOf 5 (some .int) 2 := ⟨Or.inl (gt_of 868 (by decide +kernel) rfl), ins_X8_kindsOf, sel_X8_kindsOf, ini_X8, co_X8_kindsOf, ⟨by decide +kernel, by decide +kernel, by decide +kernel⟩, by decide⟩
set_option maxRecDepth 100000 in
theorem co_X0_unlike : Cond.code yX0_unlike cX0_unlike 4 (some .int) ∈ gt := gt_of 859 rfl rfl
theorem ins_X0_unlike : Cond.instanceMethod yX0_unlike ∈ gt := gt_of 857 (by decide +kernel) rfl
theorem sel_X0_unlike : Cond.selects (yX0_unlike).cls yX0_unlike yX0_unlike ∈ gt := gt_of 858 (by decide +kernel) rfl
theorem mv_X8_278 : MV RX8 278 yX0_unlike cX0_unlike 4 (some .int) 1 := ⟨Or.inl (gt_of 856 (by decide +kernel) rfl), ins_X0_unlike, sel_X0_unlike, ini_X0, co_X0_unlike, ⟨by decide +kernel, by decide +kernel, by decide +kernel⟩, by decide⟩
set_option maxRecDepth 100000 in
theorem co_X4_become : Cond.code yX4_become cX4_become 4 none ∈ gt := gt_of 884 rfl rfl
theorem ins_X4_become : Cond.instanceMethod yX4_become ∈ gt := gt_of 882 (by decide +kernel) rfl
theorem sel_X4_become : Cond.selects (yX4_become).cls yX4_become yX4_become ∈ gt := gt_of 883 (by decide +kernel) rfl
theorem mv_X8_281 : MV RX8 281 yX4_become cX4_become 4 none 2 := ⟨Or.inl (gt_of 881 (by decide +kernel) rfl), ins_X4_become, sel_X4_become, ini_X4, co_X4_become, ⟨by decide +kernel, by decide +kernel, by decide +kernel⟩, by decide⟩
set_option maxRecDepth 100000 in
theorem co_X4_put : Cond.code yX4_put cX4_put 3 none ∈ gt := gt_of 888 rfl rfl
theorem ins_X4_put : Cond.instanceMethod yX4_put ∈ gt := gt_of 886 (by decide +kernel) rfl
theorem sel_X4_put : Cond.selects (yX4_put).cls yX4_put yX4_put ∈ gt := gt_of 887 (by decide +kernel) rfl
theorem mv_X8_283 : MV RX8 283 yX4_put cX4_put 3 none 2 := ⟨Or.inl (gt_of 885 (by decide +kernel) rfl), ins_X4_put, sel_X4_put, ini_X4, co_X4_put, ⟨by decide +kernel, by decide +kernel, by decide +kernel⟩, by decide⟩
set_option maxRecDepth 100000 in
theorem co_X8_warmOf : Cond.code yX8_warmOf cX8_warmOf 2 (some .int) ∈ gt := gt_of 899 rfl rfl
theorem sta_X8_warmOf : Cond.static yX8_warmOf ∈ gt := gt_of 898 (by decide +kernel) rfl
theorem ms_X8_286 : MS RX8 286 yX8_warmOf cX8_warmOf 2 (some .int) 1 := ⟨Or.inl (gt_of 897 (by decide +kernel) rfl), sta_X8_warmOf, ini_X8, co_X8_warmOf, ⟨by decide +kernel, by decide +kernel, by decide +kernel⟩, by decide⟩
set_option maxRecDepth 100000 in
theorem co_X8_commonDivisor : Cond.code yX8_commonDivisor cX8_commonDivisor 3 (some .int) ∈ gt := gt_of 907 rfl rfl
theorem sta_X8_commonDivisor : Cond.static yX8_commonDivisor ∈ gt := gt_of 906 (by decide +kernel) rfl
theorem ms_X8_289 : MS RX8 289 yX8_commonDivisor cX8_commonDivisor 3 (some .int) 2 := ⟨Or.inl (gt_of 905 (by decide +kernel) rfl), sta_X8_commonDivisor, ini_X8, co_X8_commonDivisor, ⟨by decide +kernel, by decide +kernel, by decide +kernel⟩, by decide⟩
set_option maxRecDepth 100000 in
theorem co_X4_has : Cond.code yX4_has cX4_has 2 (some .boolean) ∈ gt := gt_of 892 rfl rfl
theorem ins_X4_has : Cond.instanceMethod yX4_has ∈ gt := gt_of 890 (by decide +kernel) rfl
theorem sel_X4_has : Cond.selects (yX4_has).cls yX4_has yX4_has ∈ gt := gt_of 891 (by decide +kernel) rfl
theorem mv_X8_297 : MV RX8 297 yX4_has cX4_has 2 (some .boolean) 1 := ⟨Or.inl (gt_of 928 (by decide +kernel) rfl), ins_X4_has, sel_X4_has, ini_X4, co_X4_has, ⟨by decide +kernel, by decide +kernel, by decide +kernel⟩, by decide⟩
set_option maxRecDepth 100000 in
theorem co_X4_hasRun : Cond.code yX4_hasRun cX4_hasRun 3 (some .boolean) ∈ gt := gt_of 936 rfl rfl
theorem ins_X4_hasRun : Cond.instanceMethod yX4_hasRun ∈ gt := gt_of 934 (by decide +kernel) rfl
theorem sel_X4_hasRun : Cond.selects (yX4_hasRun).cls yX4_hasRun yX4_hasRun ∈ gt := gt_of 935 (by decide +kernel) rfl
theorem mv_X8_301 : MV RX8 301 yX4_hasRun cX4_hasRun 3 (some .boolean) 2 := ⟨Or.inl (gt_of 933 (by decide +kernel) rfl), ins_X4_hasRun, sel_X4_hasRun, ini_X4, co_X4_hasRun, ⟨by decide +kernel, by decide +kernel, by decide +kernel⟩, by decide⟩
set_option maxRecDepth 100000 in
theorem co_X8_wall : Cond.code yX8_wall cX8_wall 4 (some .int) ∈ gt := gt_of 637 rfl rfl
theorem ins_X8_wall : Cond.instanceMethod yX8_wall ∈ gt := gt_of 635 (by decide +kernel) rfl
theorem sel_X8_wall : Cond.selects (yX8_wall).cls yX8_wall yX8_wall ∈ gt := gt_of 636 (by decide +kernel) rfl
theorem mv_X8_311 : MV RX8 311 yX8_wall cX8_wall 4 (some .int) 3 := ⟨Or.inl (gt_of 944 (by decide +kernel) rfl), ins_X8_wall, sel_X8_wall, ini_X8, co_X8_wall, ⟨by decide +kernel, by decide +kernel, by decide +kernel⟩, by decide⟩
set_option maxRecDepth 100000 in
theorem co_X1_isUnder : Cond.code yX1_isUnder cX1_isUnder 2 (some .boolean) ∈ gt := gt_of 951 rfl rfl
theorem sta_X1_isUnder : Cond.static yX1_isUnder ∈ gt := gt_of 950 (by decide +kernel) rfl
theorem ini_X1 : Cond.initialized RX1 ∈ gt := gt_of 97 (by decide +kernel) rfl
theorem ms_X8_314 : MS RX8 314 yX1_isUnder cX1_isUnder 2 (some .boolean) 2 := ⟨Or.inl (gt_of 949 (by decide +kernel) rfl), sta_X1_isUnder, ini_X1, co_X1_isUnder, ⟨by decide +kernel, by decide +kernel, by decide +kernel⟩, by decide⟩
set_option maxRecDepth 100000 in
theorem co_X0_tells : Cond.code yX0_tells cX0_tells 6 (some .int) ∈ gt := gt_of 672 rfl rfl
theorem ins_X0_tells : Cond.instanceMethod yX0_tells ∈ gt := gt_of 671 (by decide +kernel) rfl
theorem sel_X0_tells : Cond.selects (yX0_tells).cls yX0_tells yX0_tells ∈ gt := gt_of 23 (by decide +kernel) rfl
theorem mv_X0_66 : MV RX0 66 yX0_tells cX0_tells 6 (some .int) 3 := ⟨Or.inl (gt_of 669 (by decide +kernel) rfl), ins_X0_tells, sel_X0_tells, ini_X0, co_X0_tells, ⟨by decide +kernel, by decide +kernel, by decide +kernel⟩, by decide⟩
set_option maxRecDepth 100000 in
theorem co_X1_ripens : Cond.code yX1_ripens cX1_ripens 5 (some .int) ∈ gt := gt_of 689 rfl rfl
theorem sta_X1_ripens : Cond.static yX1_ripens ∈ gt := gt_of 688 (by decide +kernel) rfl
theorem ms_X0_70 : MS RX0 70 yX1_ripens cX1_ripens 5 (some .int) 4 := ⟨Or.inl (gt_of 687 (by decide +kernel) rfl), sta_X1_ripens, ini_X1, co_X1_ripens, ⟨by decide +kernel, by decide +kernel, by decide +kernel⟩, by decide⟩
set_option maxRecDepth 100000 in
theorem co_X1_lasts : Cond.code yX1_lasts cX1_lasts 2 (some .int) ∈ gt := gt_of 693 rfl rfl
theorem sta_X1_lasts : Cond.static yX1_lasts ∈ gt := gt_of 692 (by decide +kernel) rfl
theorem ms_X0_75 : MS RX0 75 yX1_lasts cX1_lasts 2 (some .int) 2 := ⟨Or.inl (gt_of 691 (by decide +kernel) rfl), sta_X1_lasts, ini_X1, co_X1_lasts, ⟨by decide +kernel, by decide +kernel, by decide +kernel⟩, by decide⟩
set_option maxRecDepth 100000 in
theorem co_X1_takes : Cond.code yX1_takes cX1_takes 3 (some .int) ∈ gt := gt_of 696 rfl rfl
theorem sta_X1_takes : Cond.static yX1_takes ∈ gt := gt_of 695 (by decide +kernel) rfl
theorem ms_X0_81 : MS RX0 81 yX1_takes cX1_takes 3 (some .int) 3 := ⟨Or.inl (gt_of 694 (by decide +kernel) rfl), sta_X1_takes, ini_X1, co_X1_takes, ⟨by decide +kernel, by decide +kernel, by decide +kernel⟩, by decide⟩
set_option maxRecDepth 100000 in
theorem co_X7_value : Cond.code yX7_value cX7_value 8 (some .int) ∈ gt := gt_of 676 rfl rfl
theorem ins_X7_value : Cond.instanceMethod yX7_value ∈ gt := gt_of 674 (by decide +kernel) rfl
theorem sel_X7_value : Cond.selects (yX7_value).cls yX7_value yX7_value ∈ gt := gt_of 675 (by decide +kernel) rfl
theorem mv_X0_89 : MV RX0 89 yX7_value cX7_value 8 (some .int) 3 := ⟨Or.inl (gt_of 673 (by decide +kernel) rfl), ins_X7_value, sel_X7_value, ini_X7, co_X7_value, ⟨by decide +kernel, by decide +kernel, by decide +kernel⟩, by decide⟩
set_option maxRecDepth 100000 in
theorem co_J9_min_7cf53 : Cond.code yJ9_min_7cf53 cJ9_min_7cf53 2 (some .int) ∈ gt := gt_of 442 rfl rfl
theorem sta_J9_min_7cf53 : Cond.static yJ9_min_7cf53 ∈ gt := gt_of 441 (by decide +kernel) rfl
theorem ini_J9 : Cond.initialized RJ9 ∈ gt := gt_of 94 (by decide +kernel) rfl
theorem ms_X0_101 : MS RX0 101 yJ9_min_7cf53 cJ9_min_7cf53 2 (some .int) 2 := ⟨Or.inl (gt_of 685 (by decide +kernel) rfl), sta_J9_min_7cf53, ini_J9, co_J9_min_7cf53, ⟨by decide +kernel, by decide +kernel, by decide +kernel⟩, by decide⟩
set_option maxRecDepth 100000 in
theorem co_J9_max_7cf53 : Cond.code yJ9_max_7cf53 cJ9_max_7cf53 2 (some .int) ∈ gt := gt_of 439 rfl rfl
theorem sta_J9_max_7cf53 : Cond.static yJ9_max_7cf53 ∈ gt := gt_of 438 (by decide +kernel) rfl
theorem ms_X0_106 : MS RX0 106 yJ9_max_7cf53 cJ9_max_7cf53 2 (some .int) 2 := ⟨Or.inl (gt_of 686 (by decide +kernel) rfl), sta_J9_max_7cf53, ini_J9, co_J9_max_7cf53, ⟨by decide +kernel, by decide +kernel, by decide +kernel⟩, by decide⟩
set_option maxRecDepth 100000 in
theorem co_X0_dawn : Cond.code yX0_dawn cX0_dawn 2 none ∈ gt := gt_of 725 rfl rfl
theorem ins_X0_dawn : Cond.instanceMethod yX0_dawn ∈ gt := gt_of 724 (by decide +kernel) rfl
theorem sel_X0_dawn : Cond.selects (yX0_dawn).cls yX0_dawn yX0_dawn ∈ gt := gt_of 25 (by decide +kernel) rfl
theorem mv_X0_109 : MV RX0 109 yX0_dawn cX0_dawn 2 none 0 := ⟨Or.inl (gt_of 722 (by decide +kernel) rfl), ins_X0_dawn, sel_X0_dawn, ini_X0, co_X0_dawn, ⟨by decide +kernel, by decide +kernel, by decide +kernel⟩, by decide⟩
set_option maxRecDepth 100000 in
theorem co_X0_firstRipe : Cond.code yX0_firstRipe cX0_firstRipe 4 (some .int) ∈ gt := gt_of 729 rfl rfl
theorem ins_X0_firstRipe : Cond.instanceMethod yX0_firstRipe ∈ gt := gt_of 728 (by decide +kernel) rfl
theorem sel_X0_firstRipe : Cond.selects (yX0_firstRipe).cls yX0_firstRipe yX0_firstRipe ∈ gt := gt_of 26 (by decide +kernel) rfl
theorem mv_X0_118 : MV RX0 118 yX0_firstRipe cX0_firstRipe 4 (some .int) 0 := ⟨Or.inl (gt_of 726 (by decide +kernel) rfl), ins_X0_firstRipe, sel_X0_firstRipe, ini_X0, co_X0_firstRipe, ⟨by decide +kernel, by decide +kernel, by decide +kernel⟩, by decide⟩
set_option maxRecDepth 100000 in
theorem co_X0_trowel : Cond.code yX0_trowel cX0_trowel 4 none ∈ gt := gt_of 733 rfl rfl
theorem ins_X0_trowel : Cond.instanceMethod yX0_trowel ∈ gt := gt_of 732 (by decide +kernel) rfl
theorem sel_X0_trowel : Cond.selects (yX0_trowel).cls yX0_trowel yX0_trowel ∈ gt := gt_of 27 (by decide +kernel) rfl
theorem mv_X0_122 : MV RX0 122 yX0_trowel cX0_trowel 4 none 1 := ⟨Or.inl (gt_of 730 (by decide +kernel) rfl), ins_X0_trowel, sel_X0_trowel, ini_X0, co_X0_trowel, ⟨by decide +kernel, by decide +kernel, by decide +kernel⟩, by decide⟩
set_option maxRecDepth 100000 in
theorem co_X0_mayBegin : Cond.code yX0_mayBegin cX0_mayBegin 1 (some .boolean) ∈ gt := gt_of 737 rfl rfl
theorem ins_X0_mayBegin : Cond.instanceMethod yX0_mayBegin ∈ gt := gt_of 736 (by decide +kernel) rfl
theorem sel_X0_mayBegin : Cond.selects (yX0_mayBegin).cls yX0_mayBegin yX0_mayBegin ∈ gt := gt_of 28 (by decide +kernel) rfl
theorem mv_X0_126 : MV RX0 126 yX0_mayBegin cX0_mayBegin 1 (some .boolean) 0 := ⟨Or.inl (gt_of 734 (by decide +kernel) rfl), ins_X0_mayBegin, sel_X0_mayBegin, ini_X0, co_X0_mayBegin, ⟨by decide +kernel, by decide +kernel, by decide +kernel⟩, by decide⟩
set_option maxRecDepth 100000 in
theorem co_X0_begin : Cond.code yX0_begin cX0_begin 3 none ∈ gt := gt_of 745 rfl rfl
theorem ins_X0_begin : Cond.instanceMethod yX0_begin ∈ gt := gt_of 744 (by decide +kernel) rfl
theorem sel_X0_begin : Cond.selects (yX0_begin).cls yX0_begin yX0_begin ∈ gt := gt_of 30 (by decide +kernel) rfl
theorem mv_X0_133 : MV RX0 133 yX0_begin cX0_begin 3 none 1 := ⟨Or.inl (gt_of 742 (by decide +kernel) rfl), ins_X0_begin, sel_X0_begin, ini_X0, co_X0_begin, ⟨by decide +kernel, by decide +kernel, by decide +kernel⟩, by decide⟩
set_option maxRecDepth 100000 in
theorem co_X0_waitOn : Cond.code yX0_waitOn cX0_waitOn 4 none ∈ gt := gt_of 749 rfl rfl
theorem ins_X0_waitOn : Cond.instanceMethod yX0_waitOn ∈ gt := gt_of 748 (by decide +kernel) rfl
theorem sel_X0_waitOn : Cond.selects (yX0_waitOn).cls yX0_waitOn yX0_waitOn ∈ gt := gt_of 31 (by decide +kernel) rfl
theorem mv_X0_136 : MV RX0 136 yX0_waitOn cX0_waitOn 4 none 0 := ⟨Or.inl (gt_of 746 (by decide +kernel) rfl), ins_X0_waitOn, sel_X0_waitOn, ini_X0, co_X0_waitOn, ⟨by decide +kernel, by decide +kernel, by decide +kernel⟩, by decide⟩
set_option maxRecDepth 100000 in
theorem co_X0_nextBegins : Cond.code yX0_nextBegins cX0_nextBegins 1 (some .int) ∈ gt := gt_of 741 rfl rfl
theorem ins_X0_nextBegins : Cond.instanceMethod yX0_nextBegins ∈ gt := gt_of 740 (by decide +kernel) rfl
theorem sel_X0_nextBegins : Cond.selects (yX0_nextBegins).cls yX0_nextBegins yX0_nextBegins ∈ gt := gt_of 29 (by decide +kernel) rfl
theorem mv_X0_145 : MV RX0 145 yX0_nextBegins cX0_nextBegins 1 (some .int) 0 := ⟨Or.inl (gt_of 738 (by decide +kernel) rfl), ins_X0_nextBegins, sel_X0_nextBegins, ini_X0, co_X0_nextBegins, ⟨by decide +kernel, by decide +kernel, by decide +kernel⟩, by decide⟩
set_option maxRecDepth 100000 in
theorem co_X0_swap : Cond.code yX0_swap cX0_swap 4 none ∈ gt := gt_of 805 rfl rfl
theorem ins_X0_swap : Cond.instanceMethod yX0_swap ∈ gt := gt_of 804 (by decide +kernel) rfl
theorem sel_X0_swap : Cond.selects (yX0_swap).cls yX0_swap yX0_swap ∈ gt := gt_of 36 (by decide +kernel) rfl
theorem mv_X0_153 : MV RX0 153 yX0_swap cX0_swap 4 none 2 := ⟨Or.inl (gt_of 802 (by decide +kernel) rfl), ins_X0_swap, sel_X0_swap, ini_X0, co_X0_swap, ⟨by decide +kernel, by decide +kernel, by decide +kernel⟩, by decide⟩
theorem ms_X1_9 : MS RX1 9 yJ9_max_7cf53 cJ9_max_7cf53 2 (some .int) 2 := ⟨Or.inl (gt_of 690 (by decide +kernel) rfl), sta_J9_max_7cf53, ini_J9, co_J9_max_7cf53, ⟨by decide +kernel, by decide +kernel, by decide +kernel⟩, by decide⟩
set_option maxRecDepth 100000 in
theorem co_X7_clear : Cond.code yX7_clear cX7_clear 1 none ∈ gt := gt_of 402 rfl rfl
theorem ins_X7_clear : Cond.instanceMethod yX7_clear ∈ gt := gt_of 400 (by decide +kernel) rfl
theorem sel_X7_clear : Cond.selects (yX7_clear).cls yX7_clear yX7_clear ∈ gt := gt_of 401 (by decide +kernel) rfl
theorem mv_X3_29 : MV RX3 29 yX7_clear cX7_clear 1 none 0 := ⟨Or.inl (gt_of 399 (by decide +kernel) rfl), ins_X7_clear, sel_X7_clear, ini_X7, co_X7_clear, ⟨by decide +kernel, by decide +kernel, by decide +kernel⟩, by decide⟩
set_option maxRecDepth 100000 in
theorem co_X6_cut : Cond.code yX6_cut cX6_cut 4 none ∈ gt := gt_of 406 rfl rfl
theorem ins_X6_cut : Cond.instanceMethod yX6_cut ∈ gt := gt_of 404 (by decide +kernel) rfl
theorem sel_X6_cut : Cond.selects (yX6_cut).cls yX6_cut yX6_cut ∈ gt := gt_of 405 (by decide +kernel) rfl
theorem mv_X3_35 : MV RX3 35 yX6_cut cX6_cut 4 none 0 := ⟨Or.inl (gt_of 403 (by decide +kernel) rfl), ins_X6_cut, sel_X6_cut, ini_X6, co_X6_cut, ⟨by decide +kernel, by decide +kernel, by decide +kernel⟩, by decide⟩
set_option maxRecDepth 100000 in
theorem co_X3_expect : Cond.code yX3_expect cX3_expect 2 none ∈ gt := gt_of 509 rfl rfl
theorem ins_X3_expect : Cond.instanceMethod yX3_expect ∈ gt := gt_of 508 (by decide +kernel) rfl
theorem sel_X3_expect : Cond.selects (yX3_expect).cls yX3_expect yX3_expect ∈ gt := gt_of 5 (by decide +kernel) rfl
theorem mv_X3_40 : MV RX3 40 yX3_expect cX3_expect 2 none 1 := ⟨Or.inl (gt_of 506 (by decide +kernel) rfl), ins_X3_expect, sel_X3_expect, ini_X3, co_X3_expect, ⟨by decide +kernel, by decide +kernel, by decide +kernel⟩, by decide⟩
set_option maxRecDepth 100000 in
theorem co_X3_readE : Cond.code yX3_readE cX3_readE 2 none ∈ gt := gt_of 529 rfl rfl
theorem ins_X3_readE : Cond.instanceMethod yX3_readE ∈ gt := gt_of 528 (by decide +kernel) rfl
theorem sel_X3_readE : Cond.selects (yX3_readE).cls yX3_readE yX3_readE ∈ gt := gt_of 10 (by decide +kernel) rfl
theorem mv_X3_44 : MV RX3 44 yX3_readE cX3_readE 2 none 0 := ⟨Or.inl (gt_of 526 (by decide +kernel) rfl), ins_X3_readE, sel_X3_readE, ini_X3, co_X3_readE, ⟨by decide +kernel, by decide +kernel, by decide +kernel⟩, by decide⟩
set_option maxRecDepth 100000 in
theorem co_X7_endPart : Cond.code yX7_endPart cX7_endPart 2 none ∈ gt := gt_of 577 rfl rfl
theorem ins_X7_endPart : Cond.instanceMethod yX7_endPart ∈ gt := gt_of 575 (by decide +kernel) rfl
theorem sel_X7_endPart : Cond.selects (yX7_endPart).cls yX7_endPart yX7_endPart ∈ gt := gt_of 576 (by decide +kernel) rfl
theorem mv_X3_47 : MV RX3 47 yX7_endPart cX7_endPart 2 none 1 := ⟨Or.inl (gt_of 574 (by decide +kernel) rfl), ins_X7_endPart, sel_X7_endPart, ini_X7, co_X7_endPart, ⟨by decide +kernel, by decide +kernel, by decide +kernel⟩, by decide⟩
set_option maxRecDepth 100000 in
theorem co_X3_token : Cond.code yX3_token cX3_token 1 (some .int) ∈ gt := gt_of 517 rfl rfl
theorem ins_X3_token : Cond.instanceMethod yX3_token ∈ gt := gt_of 516 (by decide +kernel) rfl
theorem sel_X3_token : Cond.selects (yX3_token).cls yX3_token yX3_token ∈ gt := gt_of 7 (by decide +kernel) rfl
theorem mv_X3_50 : MV RX3 50 yX3_token cX3_token 1 (some .int) 0 := ⟨Or.inl (gt_of 514 (by decide +kernel) rfl), ins_X3_token, sel_X3_token, ini_X3, co_X3_token, ⟨by decide +kernel, by decide +kernel, by decide +kernel⟩, by decide⟩
set_option maxRecDepth 100000 in
theorem co_X3_is : Cond.code yX3_is cX3_is 2 (some .boolean) ∈ gt := gt_of 513 rfl rfl
theorem ins_X3_is : Cond.instanceMethod yX3_is ∈ gt := gt_of 512 (by decide +kernel) rfl
theorem sel_X3_is : Cond.selects (yX3_is).cls yX3_is yX3_is ∈ gt := gt_of 6 (by decide +kernel) rfl
theorem mv_X3_67 : MV RX3 67 yX3_is cX3_is 2 (some .boolean) 1 := ⟨Or.inl (gt_of 510 (by decide +kernel) rfl), ins_X3_is, sel_X3_is, ini_X3, co_X3_is, ⟨by decide +kernel, by decide +kernel, by decide +kernel⟩, by decide⟩
set_option maxRecDepth 100000 in
theorem co_X3_next : Cond.code yX3_next cX3_next 1 none ∈ gt := gt_of 521 rfl rfl
theorem ins_X3_next : Cond.instanceMethod yX3_next ∈ gt := gt_of 520 (by decide +kernel) rfl
theorem sel_X3_next : Cond.selects (yX3_next).cls yX3_next yX3_next ∈ gt := gt_of 8 (by decide +kernel) rfl
theorem mv_X3_71 : MV RX3 71 yX3_next cX3_next 1 none 0 := ⟨Or.inl (gt_of 518 (by decide +kernel) rfl), ins_X3_next, sel_X3_next, ini_X3, co_X3_next, ⟨by decide +kernel, by decide +kernel, by decide +kernel⟩, by decide⟩
set_option maxRecDepth 100000 in
theorem co_X3_fail : Cond.code yX3_fail cX3_fail 1 none ∈ gt := gt_of 525 rfl rfl
theorem ins_X3_fail : Cond.instanceMethod yX3_fail ∈ gt := gt_of 524 (by decide +kernel) rfl
theorem sel_X3_fail : Cond.selects (yX3_fail).cls yX3_fail yX3_fail ∈ gt := gt_of 9 (by decide +kernel) rfl
theorem mv_X3_74 : MV RX3 74 yX3_fail cX3_fail 1 none 0 := ⟨Or.inl (gt_of 522 (by decide +kernel) rfl), ins_X3_fail, sel_X3_fail, ini_X3, co_X3_fail, ⟨by decide +kernel, by decide +kernel, by decide +kernel⟩, by decide⟩
set_option maxRecDepth 100000 in
theorem co_X3_readAnd : Cond.code yX3_readAnd cX3_readAnd 2 none ∈ gt := gt_of 533 rfl rfl
theorem ins_X3_readAnd : Cond.instanceMethod yX3_readAnd ∈ gt := gt_of 532 (by decide +kernel) rfl
theorem sel_X3_readAnd : Cond.selects (yX3_readAnd).cls yX3_readAnd yX3_readAnd ∈ gt := gt_of 11 (by decide +kernel) rfl
theorem mv_X3_77 : MV RX3 77 yX3_readAnd cX3_readAnd 2 none 0 := ⟨Or.inl (gt_of 530 (by decide +kernel) rfl), ins_X3_readAnd, sel_X3_readAnd, ini_X3, co_X3_readAnd, ⟨by decide +kernel, by decide +kernel, by decide +kernel⟩, by decide⟩
set_option maxRecDepth 100000 in
theorem co_X7_add : Cond.code yX7_add cX7_add 2 none ∈ gt := gt_of 561 rfl rfl
theorem ins_X7_add : Cond.instanceMethod yX7_add ∈ gt := gt_of 559 (by decide +kernel) rfl
theorem sel_X7_add : Cond.selects (yX7_add).cls yX7_add yX7_add ∈ gt := gt_of 560 (by decide +kernel) rfl
theorem mv_X3_80 : MV RX3 80 yX7_add cX7_add 2 none 1 := ⟨Or.inl (gt_of 558 (by decide +kernel) rfl), ins_X7_add, sel_X7_add, ini_X7, co_X7_add, ⟨by decide +kernel, by decide +kernel, by decide +kernel⟩, by decide⟩
set_option maxRecDepth 100000 in
theorem co_X3_readNot : Cond.code yX3_readNot cX3_readNot 1 none ∈ gt := gt_of 537 rfl rfl
theorem ins_X3_readNot : Cond.instanceMethod yX3_readNot ∈ gt := gt_of 536 (by decide +kernel) rfl
theorem sel_X3_readNot : Cond.selects (yX3_readNot).cls yX3_readNot yX3_readNot ∈ gt := gt_of 12 (by decide +kernel) rfl
theorem mv_X3_83 : MV RX3 83 yX3_readNot cX3_readNot 1 none 0 := ⟨Or.inl (gt_of 534 (by decide +kernel) rfl), ins_X3_readNot, sel_X3_readNot, ini_X3, co_X3_readNot, ⟨by decide +kernel, by decide +kernel, by decide +kernel⟩, by decide⟩
set_option maxRecDepth 100000 in
theorem co_X3_readCompared : Cond.code yX3_readCompared cX3_readCompared 2 none ∈ gt := gt_of 541 rfl rfl
theorem ins_X3_readCompared : Cond.instanceMethod yX3_readCompared ∈ gt := gt_of 540 (by decide +kernel) rfl
theorem sel_X3_readCompared : Cond.selects (yX3_readCompared).cls yX3_readCompared yX3_readCompared ∈ gt := gt_of 13 (by decide +kernel) rfl
theorem mv_X3_86 : MV RX3 86 yX3_readCompared cX3_readCompared 2 none 0 := ⟨Or.inl (gt_of 538 (by decide +kernel) rfl), ins_X3_readCompared, sel_X3_readCompared, ini_X3, co_X3_readCompared, ⟨by decide +kernel, by decide +kernel, by decide +kernel⟩, by decide⟩
set_option maxRecDepth 100000 in
theorem co_X3_opens : Cond.code yX3_opens cX3_opens 1 (some .boolean) ∈ gt := gt_of 569 rfl rfl
theorem ins_X3_opens : Cond.instanceMethod yX3_opens ∈ gt := gt_of 568 (by decide +kernel) rfl
theorem sel_X3_opens : Cond.selects (yX3_opens).cls yX3_opens yX3_opens ∈ gt := gt_of 19 (by decide +kernel) rfl
theorem mv_X3_89 : MV RX3 89 yX3_opens cX3_opens 1 (some .boolean) 0 := ⟨Or.inl (gt_of 566 (by decide +kernel) rfl), ins_X3_opens, sel_X3_opens, ini_X3, co_X3_opens, ⟨by decide +kernel, by decide +kernel, by decide +kernel⟩, by decide⟩
set_option maxRecDepth 100000 in
theorem co_X3_readSum : Cond.code yX3_readSum cX3_readSum 3 none ∈ gt := gt_of 545 rfl rfl
theorem ins_X3_readSum : Cond.instanceMethod yX3_readSum ∈ gt := gt_of 544 (by decide +kernel) rfl
theorem sel_X3_readSum : Cond.selects (yX3_readSum).cls yX3_readSum yX3_readSum ∈ gt := gt_of 14 (by decide +kernel) rfl
theorem mv_X3_93 : MV RX3 93 yX3_readSum cX3_readSum 3 none 0 := ⟨Or.inl (gt_of 542 (by decide +kernel) rfl), ins_X3_readSum, sel_X3_readSum, ini_X3, co_X3_readSum, ⟨by decide +kernel, by decide +kernel, by decide +kernel⟩, by decide⟩
set_option maxRecDepth 100000 in
theorem co_X3_readTerm : Cond.code yX3_readTerm cX3_readTerm 2 none ∈ gt := gt_of 549 rfl rfl
theorem ins_X3_readTerm : Cond.instanceMethod yX3_readTerm ∈ gt := gt_of 548 (by decide +kernel) rfl
theorem sel_X3_readTerm : Cond.selects (yX3_readTerm).cls yX3_readTerm yX3_readTerm ∈ gt := gt_of 15 (by decide +kernel) rfl
theorem mv_X3_96 : MV RX3 96 yX3_readTerm cX3_readTerm 2 none 0 := ⟨Or.inl (gt_of 546 (by decide +kernel) rfl), ins_X3_readTerm, sel_X3_readTerm, ini_X3, co_X3_readTerm, ⟨by decide +kernel, by decide +kernel, by decide +kernel⟩, by decide⟩
set_option maxRecDepth 100000 in
theorem co_X3_readOne : Cond.code yX3_readOne cX3_readOne 2 none ∈ gt := gt_of 553 rfl rfl
theorem ins_X3_readOne : Cond.instanceMethod yX3_readOne ∈ gt := gt_of 552 (by decide +kernel) rfl
theorem sel_X3_readOne : Cond.selects (yX3_readOne).cls yX3_readOne yX3_readOne ∈ gt := gt_of 16 (by decide +kernel) rfl
theorem mv_X3_99 : MV RX3 99 yX3_readOne cX3_readOne 2 none 0 := ⟨Or.inl (gt_of 550 (by decide +kernel) rfl), ins_X3_readOne, sel_X3_readOne, ini_X3, co_X3_readOne, ⟨by decide +kernel, by decide +kernel, by decide +kernel⟩, by decide⟩
set_option maxRecDepth 100000 in
theorem co_X3_number : Cond.code yX3_number cX3_number 1 (some .int) ∈ gt := gt_of 557 rfl rfl
theorem ins_X3_number : Cond.instanceMethod yX3_number ∈ gt := gt_of 556 (by decide +kernel) rfl
theorem sel_X3_number : Cond.selects (yX3_number).cls yX3_number yX3_number ∈ gt := gt_of 17 (by decide +kernel) rfl
theorem mv_X3_102 : MV RX3 102 yX3_number cX3_number 1 (some .int) 0 := ⟨Or.inl (gt_of 554 (by decide +kernel) rfl), ins_X3_number, sel_X3_number, ini_X3, co_X3_number, ⟨by decide +kernel, by decide +kernel, by decide +kernel⟩, by decide⟩
set_option maxRecDepth 100000 in
theorem co_X3_readMinus : Cond.code yX3_readMinus cX3_readMinus 1 none ∈ gt := gt_of 565 rfl rfl
theorem ins_X3_readMinus : Cond.instanceMethod yX3_readMinus ∈ gt := gt_of 564 (by decide +kernel) rfl
theorem sel_X3_readMinus : Cond.selects (yX3_readMinus).cls yX3_readMinus yX3_readMinus ∈ gt := gt_of 18 (by decide +kernel) rfl
theorem mv_X3_105 : MV RX3 105 yX3_readMinus cX3_readMinus 1 none 0 := ⟨Or.inl (gt_of 562 (by decide +kernel) rfl), ins_X3_readMinus, sel_X3_readMinus, ini_X3, co_X3_readMinus, ⟨by decide +kernel, by decide +kernel, by decide +kernel⟩, by decide⟩
set_option maxRecDepth 100000 in
theorem co_X3_readBracket : Cond.code yX3_readBracket cX3_readBracket 1 none ∈ gt := gt_of 573 rfl rfl
theorem ins_X3_readBracket : Cond.instanceMethod yX3_readBracket ∈ gt := gt_of 572 (by decide +kernel) rfl
theorem sel_X3_readBracket : Cond.selects (yX3_readBracket).cls yX3_readBracket yX3_readBracket ∈ gt := gt_of 20 (by decide +kernel) rfl
theorem mv_X3_108 : MV RX3 108 yX3_readBracket cX3_readBracket 1 none 0 := ⟨Or.inl (gt_of 570 (by decide +kernel) rfl), ins_X3_readBracket, sel_X3_readBracket, ini_X3, co_X3_readBracket, ⟨by decide +kernel, by decide +kernel, by decide +kernel⟩, by decide⟩
theorem mv_X4_22 : MV RX4 22 yX4_has cX4_has 2 (some .boolean) 1 := ⟨Or.inl (gt_of 889 (by decide +kernel) rfl), ins_X4_has, sel_X4_has, ini_X4, co_X4_has, ⟨by decide +kernel, by decide +kernel, by decide +kernel⟩, by decide⟩
set_option maxRecDepth 100000 in
theorem co_X6_endOf : Cond.code yX6_endOf cX6_endOf 5 (some .int) ∈ gt := gt_of 410 rfl rfl
theorem ins_X6_endOf : Cond.instanceMethod yX6_endOf ∈ gt := gt_of 409 (by decide +kernel) rfl
theorem sel_X6_endOf : Cond.selects (yX6_endOf).cls yX6_endOf yX6_endOf ∈ gt := gt_of 1 (by decide +kernel) rfl
theorem mv_X6_31 : MV RX6 31 yX6_endOf cX6_endOf 5 (some .int) 1 := ⟨Or.inl (gt_of 407 (by decide +kernel) rfl), ins_X6_endOf, sel_X6_endOf, ini_X6, co_X6_endOf, ⟨by decide +kernel, by decide +kernel, by decide +kernel⟩, by decide⟩
set_option maxRecDepth 100000 in
theorem co_X6_tokenOf : Cond.code yX6_tokenOf cX6_tokenOf 5 (some .int) ∈ gt := gt_of 420 rfl rfl
theorem ins_X6_tokenOf : Cond.instanceMethod yX6_tokenOf ∈ gt := gt_of 419 (by decide +kernel) rfl
theorem sel_X6_tokenOf : Cond.selects (yX6_tokenOf).cls yX6_tokenOf yX6_tokenOf ∈ gt := gt_of 2 (by decide +kernel) rfl
theorem mv_X6_35 : MV RX6 35 yX6_tokenOf cX6_tokenOf 5 (some .int) 2 := ⟨Or.inl (gt_of 417 (by decide +kernel) rfl), ins_X6_tokenOf, sel_X6_tokenOf, ini_X6, co_X6_tokenOf, ⟨by decide +kernel, by decide +kernel, by decide +kernel⟩, by decide⟩
set_option maxRecDepth 100000 in
theorem co_X6_numberOf : Cond.code yX6_numberOf cX6_numberOf 5 (some .int) ∈ gt := gt_of 505 rfl rfl
theorem ins_X6_numberOf : Cond.instanceMethod yX6_numberOf ∈ gt := gt_of 504 (by decide +kernel) rfl
theorem sel_X6_numberOf : Cond.selects (yX6_numberOf).cls yX6_numberOf yX6_numberOf ∈ gt := gt_of 4 (by decide +kernel) rfl
theorem mv_X6_39 : MV RX6 39 yX6_numberOf cX6_numberOf 5 (some .int) 2 := ⟨Or.inl (gt_of 502 (by decide +kernel) rfl), ins_X6_numberOf, sel_X6_numberOf, ini_X6, co_X6_numberOf, ⟨by decide +kernel, by decide +kernel, by decide +kernel⟩, by decide⟩
set_option maxRecDepth 100000 in
theorem co_X6_isLetter : Cond.code yX6_isLetter cX6_isLetter 1 (some .boolean) ∈ gt := gt_of 413 rfl rfl
theorem sta_X6_isLetter : Cond.static yX6_isLetter ∈ gt := gt_of 412 (by decide +kernel) rfl
theorem ms_X6_42 : MS RX6 42 yX6_isLetter cX6_isLetter 1 (some .boolean) 1 := ⟨Or.inl (gt_of 411 (by decide +kernel) rfl), sta_X6_isLetter, ini_X6, co_X6_isLetter, ⟨by decide +kernel, by decide +kernel, by decide +kernel⟩, by decide⟩
set_option maxRecDepth 100000 in
theorem co_X6_isDigit : Cond.code yX6_isDigit cX6_isDigit 1 (some .boolean) ∈ gt := gt_of 416 rfl rfl
theorem sta_X6_isDigit : Cond.static yX6_isDigit ∈ gt := gt_of 415 (by decide +kernel) rfl
theorem ms_X6_46 : MS RX6 46 yX6_isDigit cX6_isDigit 1 (some .boolean) 1 := ⟨Or.inl (gt_of 414 (by decide +kernel) rfl), sta_X6_isDigit, ini_X6, co_X6_isDigit, ⟨by decide +kernel, by decide +kernel, by decide +kernel⟩, by decide⟩
set_option maxRecDepth 100000 in
theorem co_J0_indexOf_0f7a4 : Cond.code yJ0_indexOf_0f7a4 cJ0_indexOf_0f7a4 2 (some .int) ∈ gt := gt_of 425 rfl rfl
theorem ins_J0_indexOf_0f7a4 : Cond.instanceMethod yJ0_indexOf_0f7a4 ∈ gt := gt_of 423 (by decide +kernel) rfl
theorem sel_J0_indexOf_0f7a4 : Cond.selects (yJ0_indexOf_0f7a4).cls yJ0_indexOf_0f7a4 yJ0_indexOf_0f7a4 ∈ gt := gt_of 424 (by decide +kernel) rfl
theorem mv_X6_51 : MV RX6 51 yJ0_indexOf_0f7a4 cJ0_indexOf_0f7a4 2 (some .int) 1 := ⟨Or.inl (gt_of 422 (by decide +kernel) rfl), ins_J0_indexOf_0f7a4, sel_J0_indexOf_0f7a4, ini_J0, co_J0_indexOf_0f7a4, ⟨by decide +kernel, by decide +kernel, by decide +kernel⟩, by decide⟩
set_option maxRecDepth 100000 in
theorem co_X6_wordOf : Cond.code yX6_wordOf cX6_wordOf 1 (some (.object "java/lang/String")) ∈ gt := gt_of 483 rfl rfl
theorem sta_X6_wordOf : Cond.static yX6_wordOf ∈ gt := gt_of 482 (by decide +kernel) rfl
theorem ms_X6_56 : MS RX6 56 yX6_wordOf cX6_wordOf 1 (some (.object "java/lang/String")) 1 := ⟨Or.inl (gt_of 481 (by decide +kernel) rfl), sta_X6_wordOf, ini_X6, co_X6_wordOf, ⟨by decide +kernel, by decide +kernel, by decide +kernel⟩, by decide⟩
set_option maxRecDepth 100000 in
theorem co_X6_spells : Cond.code yX6_spells cX6_spells 5 (some .boolean) ∈ gt := gt_of 499 rfl rfl
theorem ins_X6_spells : Cond.instanceMethod yX6_spells ∈ gt := gt_of 498 (by decide +kernel) rfl
theorem sel_X6_spells : Cond.selects (yX6_spells).cls yX6_spells yX6_spells ∈ gt := gt_of 3 (by decide +kernel) rfl
theorem mv_X6_60 : MV RX6 60 yX6_spells cX6_spells 5 (some .boolean) 3 := ⟨Or.inl (gt_of 496 (by decide +kernel) rfl), ins_X6_spells, sel_X6_spells, ini_X6, co_X6_spells, ⟨by decide +kernel, by decide +kernel, by decide +kernel⟩, by decide⟩
theorem mv_X6_64 : MV RX6 64 yJ0_length_8abf5 cJ0_length_8abf5 1 (some .int) 0 := ⟨Or.inl (gt_of 500 (by decide +kernel) rfl), ins_J0_length_8abf5, sel_J0_length_8abf5, ini_J0, co_J0_length_8abf5, ⟨by decide +kernel, by decide +kernel, by decide +kernel⟩, by decide⟩
theorem mv_X6_68 : MV RX6 68 yJ0_charAt_5068e cJ0_charAt_5068e 2 (some .char) 1 := ⟨Or.inl (gt_of 501 (by decide +kernel) rfl), ins_J0_charAt_5068e, sel_J0_charAt_5068e, ini_J0, co_J0_charAt_5068e, ⟨by decide +kernel, by decide +kernel, by decide +kernel⟩, by decide⟩
theorem ms_X7_22 : MS RX7 22 yJ9_max_7cf53 cJ9_max_7cf53 2 (some .int) 2 := ⟨Or.inl (gt_of 677 (by decide +kernel) rfl), sta_J9_max_7cf53, ini_J9, co_J9_max_7cf53, ⟨by decide +kernel, by decide +kernel, by decide +kernel⟩, by decide⟩
set_option maxRecDepth 100000 in
theorem co_X7_joined : Cond.code yX7_joined cX7_joined 3 (some .int) ∈ gt := gt_of 680 rfl rfl
theorem sta_X7_joined : Cond.static yX7_joined ∈ gt := gt_of 679 (by decide +kernel) rfl
theorem ms_X7_28 : MS RX7 28 yX7_joined cX7_joined 3 (some .int) 3 := ⟨Or.inl (gt_of 678 (by decide +kernel) rfl), sta_X7_joined, ini_X7, co_X7_joined, ⟨by decide +kernel, by decide +kernel, by decide +kernel⟩, by decide⟩
set_option maxRecDepth 100000 in
theorem co_X8_set : Cond.code yX8_set cX8_set 8 (some .int) ∈ gt := gt_of 621 rfl rfl
theorem ins_X8_set : Cond.instanceMethod yX8_set ∈ gt := gt_of 619 (by decide +kernel) rfl
theorem sel_X8_set : Cond.selects (yX8_set).cls yX8_set yX8_set ∈ gt := gt_of 620 (by decide +kernel) rfl
theorem mv_L_13 : MV RL 13 yX8_set cX8_set 8 (some .int) 3 := ⟨Or.inl (gt_of 618 (by decide +kernel) rfl), ins_X8_set, sel_X8_set, ini_X8, co_X8_set, ⟨by decide +kernel, by decide +kernel, by decide +kernel⟩, by decide⟩
set_option maxRecDepth 100000 in
theorem co_X9_set : Cond.code yX9_set cX9_set 6 (some .int) ∈ gt := gt_of 1125 rfl rfl
theorem ins_X9_set : Cond.instanceMethod yX9_set ∈ gt := gt_of 1123 (by decide +kernel) rfl
theorem sel_X9_set : Cond.selects (yX9_set).cls yX9_set yX9_set ∈ gt := gt_of 1124 (by decide +kernel) rfl
theorem ini_X9 : Cond.initialized RX9 ∈ gt := gt_of 96 (by decide +kernel) rfl
theorem mv_L_17 : MV RL 17 yX9_set cX9_set 6 (some .int) 3 := ⟨Or.inl (gt_of 1122 (by decide +kernel) rfl), ins_X9_set, sel_X9_set, ini_X9, co_X9_set, ⟨by decide +kernel, by decide +kernel, by decide +kernel⟩, by decide⟩
theorem mv_L_18 : MV RL 18 yX8_wall cX8_wall 4 (some .int) 3 := ⟨Or.inl (gt_of 634 (by decide +kernel) rfl), ins_X8_wall, sel_X8_wall, ini_X8, co_X8_wall, ⟨by decide +kernel, by decide +kernel, by decide +kernel⟩, by decide⟩
set_option maxRecDepth 100000 in
theorem co_X9_wall : Cond.code yX9_wall cX9_wall 4 (some .int) ∈ gt := gt_of 1137 rfl rfl
theorem ins_X9_wall : Cond.instanceMethod yX9_wall ∈ gt := gt_of 1135 (by decide +kernel) rfl
theorem sel_X9_wall : Cond.selects (yX9_wall).cls yX9_wall yX9_wall ∈ gt := gt_of 1136 (by decide +kernel) rfl
theorem mv_L_21 : MV RL 21 yX9_wall cX9_wall 4 (some .int) 3 := ⟨Or.inl (gt_of 1134 (by decide +kernel) rfl), ins_X9_wall, sel_X9_wall, ini_X9, co_X9_wall, ⟨by decide +kernel, by decide +kernel, by decide +kernel⟩, by decide⟩
set_option maxRecDepth 100000 in
theorem co_X8_told : Cond.code yX8_told cX8_told 3 (some .int) ∈ gt := gt_of 648 rfl rfl
theorem ins_X8_told : Cond.instanceMethod yX8_told ∈ gt := gt_of 646 (by decide +kernel) rfl
theorem sel_X8_told : Cond.selects (yX8_told).cls yX8_told yX8_told ∈ gt := gt_of 647 (by decide +kernel) rfl
theorem mv_L_22 : MV RL 22 yX8_told cX8_told 3 (some .int) 2 := ⟨Or.inl (gt_of 645 (by decide +kernel) rfl), ins_X8_told, sel_X8_told, ini_X8, co_X8_told, ⟨by decide +kernel, by decide +kernel, by decide +kernel⟩, by decide⟩
set_option maxRecDepth 100000 in
theorem co_X9_told : Cond.code yX9_told cX9_told 3 (some .int) ∈ gt := gt_of 1144 rfl rfl
theorem ins_X9_told : Cond.instanceMethod yX9_told ∈ gt := gt_of 1142 (by decide +kernel) rfl
theorem sel_X9_told : Cond.selects (yX9_told).cls yX9_told yX9_told ∈ gt := gt_of 1143 (by decide +kernel) rfl
theorem mv_L_26 : MV RL 26 yX9_told cX9_told 3 (some .int) 2 := ⟨Or.inl (gt_of 1141 (by decide +kernel) rfl), ins_X9_told, sel_X9_told, ini_X9, co_X9_told, ⟨by decide +kernel, by decide +kernel, by decide +kernel⟩, by decide⟩
set_option maxRecDepth 100000 in
theorem co_X8_feed : Cond.code yX8_feed cX8_feed 2 (some .int) ∈ gt := gt_of 700 rfl rfl
theorem ins_X8_feed : Cond.instanceMethod yX8_feed ∈ gt := gt_of 698 (by decide +kernel) rfl
theorem sel_X8_feed : Cond.selects (yX8_feed).cls yX8_feed yX8_feed ∈ gt := gt_of 699 (by decide +kernel) rfl
theorem mv_L_27 : MV RL 27 yX8_feed cX8_feed 2 (some .int) 1 := ⟨Or.inl (gt_of 697 (by decide +kernel) rfl), ins_X8_feed, sel_X8_feed, ini_X8, co_X8_feed, ⟨by decide +kernel, by decide +kernel, by decide +kernel⟩, by decide⟩
set_option maxRecDepth 100000 in
theorem co_X9_feed : Cond.code yX9_feed cX9_feed 2 (some .int) ∈ gt := gt_of 1239 rfl rfl
theorem ins_X9_feed : Cond.instanceMethod yX9_feed ∈ gt := gt_of 1237 (by decide +kernel) rfl
theorem sel_X9_feed : Cond.selects (yX9_feed).cls yX9_feed yX9_feed ∈ gt := gt_of 1238 (by decide +kernel) rfl
theorem mv_L_31 : MV RL 31 yX9_feed cX9_feed 2 (some .int) 1 := ⟨Or.inl (gt_of 1236 (by decide +kernel) rfl), ins_X9_feed, sel_X9_feed, ini_X9, co_X9_feed, ⟨by decide +kernel, by decide +kernel, by decide +kernel⟩, by decide⟩
set_option maxRecDepth 100000 in
theorem co_X8_text : Cond.code yX8_text cX8_text 1 (some .int) ∈ gt := gt_of 704 rfl rfl
theorem ins_X8_text : Cond.instanceMethod yX8_text ∈ gt := gt_of 702 (by decide +kernel) rfl
theorem sel_X8_text : Cond.selects (yX8_text).cls yX8_text yX8_text ∈ gt := gt_of 703 (by decide +kernel) rfl
theorem mv_L_32 : MV RL 32 yX8_text cX8_text 1 (some .int) 0 := ⟨Or.inl (gt_of 701 (by decide +kernel) rfl), ins_X8_text, sel_X8_text, ini_X8, co_X8_text, ⟨by decide +kernel, by decide +kernel, by decide +kernel⟩, by decide⟩
set_option maxRecDepth 100000 in
theorem co_X9_text : Cond.code yX9_text cX9_text 2 (some .int) ∈ gt := gt_of 1244 rfl rfl
theorem ins_X9_text : Cond.instanceMethod yX9_text ∈ gt := gt_of 1242 (by decide +kernel) rfl
theorem sel_X9_text : Cond.selects (yX9_text).cls yX9_text yX9_text ∈ gt := gt_of 1243 (by decide +kernel) rfl
theorem mv_L_36 : MV RL 36 yX9_text cX9_text 2 (some .int) 0 := ⟨Or.inl (gt_of 1241 (by decide +kernel) rfl), ins_X9_text, sel_X9_text, ini_X9, co_X9_text, ⟨by decide +kernel, by decide +kernel, by decide +kernel⟩, by decide⟩
set_option maxRecDepth 100000 in
theorem co_X8_force : Cond.code yX8_force cX8_force 3 (some .int) ∈ gt := gt_of 708 rfl rfl
theorem ins_X8_force : Cond.instanceMethod yX8_force ∈ gt := gt_of 706 (by decide +kernel) rfl
theorem sel_X8_force : Cond.selects (yX8_force).cls yX8_force yX8_force ∈ gt := gt_of 707 (by decide +kernel) rfl
theorem mv_L_37 : MV RL 37 yX8_force cX8_force 3 (some .int) 1 := ⟨Or.inl (gt_of 705 (by decide +kernel) rfl), ins_X8_force, sel_X8_force, ini_X8, co_X8_force, ⟨by decide +kernel, by decide +kernel, by decide +kernel⟩, by decide⟩
set_option maxRecDepth 100000 in
theorem co_X9_force : Cond.code yX9_force cX9_force 3 (some .int) ∈ gt := gt_of 1248 rfl rfl
theorem ins_X9_force : Cond.instanceMethod yX9_force ∈ gt := gt_of 1246 (by decide +kernel) rfl
theorem sel_X9_force : Cond.selects (yX9_force).cls yX9_force yX9_force ∈ gt := gt_of 1247 (by decide +kernel) rfl
theorem mv_L_40 : MV RL 40 yX9_force cX9_force 3 (some .int) 1 := ⟨Or.inl (gt_of 1245 (by decide +kernel) rfl), ins_X9_force, sel_X9_force, ini_X9, co_X9_force, ⟨by decide +kernel, by decide +kernel, by decide +kernel⟩, by decide⟩
set_option maxRecDepth 100000 in
theorem co_X8_day : Cond.code yX8_day cX8_day 2 (some .int) ∈ gt := gt_of 712 rfl rfl
theorem ins_X8_day : Cond.instanceMethod yX8_day ∈ gt := gt_of 710 (by decide +kernel) rfl
theorem sel_X8_day : Cond.selects (yX8_day).cls yX8_day yX8_day ∈ gt := gt_of 711 (by decide +kernel) rfl
theorem mv_L_41 : MV RL 41 yX8_day cX8_day 2 (some .int) 1 := ⟨Or.inl (gt_of 709 (by decide +kernel) rfl), ins_X8_day, sel_X8_day, ini_X8, co_X8_day, ⟨by decide +kernel, by decide +kernel, by decide +kernel⟩, by decide⟩
set_option maxRecDepth 100000 in
theorem co_X9_day : Cond.code yX9_day cX9_day 2 (some .int) ∈ gt := gt_of 1252 rfl rfl
theorem ins_X9_day : Cond.instanceMethod yX9_day ∈ gt := gt_of 1250 (by decide +kernel) rfl
theorem sel_X9_day : Cond.selects (yX9_day).cls yX9_day yX9_day ∈ gt := gt_of 1251 (by decide +kernel) rfl
theorem mv_L_44 : MV RL 44 yX9_day cX9_day 2 (some .int) 1 := ⟨Or.inl (gt_of 1249 (by decide +kernel) rfl), ins_X9_day, sel_X9_day, ini_X9, co_X9_day, ⟨by decide +kernel, by decide +kernel, by decide +kernel⟩, by decide⟩
set_option maxRecDepth 100000 in
theorem co_X8_order : Cond.code yX8_order cX8_order 4 (some .int) ∈ gt := gt_of 769 rfl rfl
theorem ins_X8_order : Cond.instanceMethod yX8_order ∈ gt := gt_of 767 (by decide +kernel) rfl
theorem sel_X8_order : Cond.selects (yX8_order).cls yX8_order yX8_order ∈ gt := gt_of 768 (by decide +kernel) rfl
theorem mv_L_45 : MV RL 45 yX8_order cX8_order 4 (some .int) 2 := ⟨Or.inl (gt_of 766 (by decide +kernel) rfl), ins_X8_order, sel_X8_order, ini_X8, co_X8_order, ⟨by decide +kernel, by decide +kernel, by decide +kernel⟩, by decide⟩
set_option maxRecDepth 100000 in
theorem co_X9_order : Cond.code yX9_order cX9_order 3 (some .int) ∈ gt := gt_of 1295 rfl rfl
theorem ins_X9_order : Cond.instanceMethod yX9_order ∈ gt := gt_of 1293 (by decide +kernel) rfl
theorem sel_X9_order : Cond.selects (yX9_order).cls yX9_order yX9_order ∈ gt := gt_of 1294 (by decide +kernel) rfl
theorem mv_L_48 : MV RL 48 yX9_order cX9_order 3 (some .int) 2 := ⟨Or.inl (gt_of 1292 (by decide +kernel) rfl), ins_X9_order, sel_X9_order, ini_X9, co_X9_order, ⟨by decide +kernel, by decide +kernel, by decide +kernel⟩, by decide⟩
set_option maxRecDepth 100000 in
theorem co_X8_best : Cond.code yX8_best cX8_best 4 (some .int) ∈ gt := gt_of 785 rfl rfl
theorem ins_X8_best : Cond.instanceMethod yX8_best ∈ gt := gt_of 783 (by decide +kernel) rfl
theorem sel_X8_best : Cond.selects (yX8_best).cls yX8_best yX8_best ∈ gt := gt_of 784 (by decide +kernel) rfl
theorem mv_L_49 : MV RL 49 yX8_best cX8_best 4 (some .int) 1 := ⟨Or.inl (gt_of 782 (by decide +kernel) rfl), ins_X8_best, sel_X8_best, ini_X8, co_X8_best, ⟨by decide +kernel, by decide +kernel, by decide +kernel⟩, by decide⟩
set_option maxRecDepth 100000 in
theorem co_X9_best : Cond.code yX9_best cX9_best 2 (some .int) ∈ gt := gt_of 1307 rfl rfl
theorem ins_X9_best : Cond.instanceMethod yX9_best ∈ gt := gt_of 1305 (by decide +kernel) rfl
theorem sel_X9_best : Cond.selects (yX9_best).cls yX9_best yX9_best ∈ gt := gt_of 1306 (by decide +kernel) rfl
theorem mv_L_52 : MV RL 52 yX9_best cX9_best 2 (some .int) 1 := ⟨Or.inl (gt_of 1304 (by decide +kernel) rfl), ins_X9_best, sel_X9_best, ini_X9, co_X9_best, ⟨by decide +kernel, by decide +kernel, by decide +kernel⟩, by decide⟩
set_option maxRecDepth 100000 in
theorem co_X8_good : Cond.code yX8_good cX8_good 5 (some .int) ∈ gt := gt_of 809 rfl rfl
theorem ins_X8_good : Cond.instanceMethod yX8_good ∈ gt := gt_of 807 (by decide +kernel) rfl
theorem sel_X8_good : Cond.selects (yX8_good).cls yX8_good yX8_good ∈ gt := gt_of 808 (by decide +kernel) rfl
theorem mv_L_53 : MV RL 53 yX8_good cX8_good 5 (some .int) 2 := ⟨Or.inl (gt_of 806 (by decide +kernel) rfl), ins_X8_good, sel_X8_good, ini_X8, co_X8_good, ⟨by decide +kernel, by decide +kernel, by decide +kernel⟩, by decide⟩
set_option maxRecDepth 100000 in
theorem co_X9_good : Cond.code yX9_good cX9_good 8 (some .int) ∈ gt := gt_of 1316 rfl rfl
theorem ins_X9_good : Cond.instanceMethod yX9_good ∈ gt := gt_of 1314 (by decide +kernel) rfl
theorem sel_X9_good : Cond.selects (yX9_good).cls yX9_good yX9_good ∈ gt := gt_of 1315 (by decide +kernel) rfl
theorem mv_L_56 : MV RL 56 yX9_good cX9_good 8 (some .int) 2 := ⟨Or.inl (gt_of 1313 (by decide +kernel) rfl), ins_X9_good, sel_X9_good, ini_X9, co_X9_good, ⟨by decide +kernel, by decide +kernel, by decide +kernel⟩, by decide⟩
set_option maxRecDepth 100000 in
theorem co_X8_wetting : Cond.code yX8_wetting cX8_wetting 4 (some .int) ∈ gt := gt_of 821 rfl rfl
theorem ins_X8_wetting : Cond.instanceMethod yX8_wetting ∈ gt := gt_of 819 (by decide +kernel) rfl
theorem sel_X8_wetting : Cond.selects (yX8_wetting).cls yX8_wetting yX8_wetting ∈ gt := gt_of 820 (by decide +kernel) rfl
theorem mv_L_57 : MV RL 57 yX8_wetting cX8_wetting 4 (some .int) 2 := ⟨Or.inl (gt_of 818 (by decide +kernel) rfl), ins_X8_wetting, sel_X8_wetting, ini_X8, co_X8_wetting, ⟨by decide +kernel, by decide +kernel, by decide +kernel⟩, by decide⟩
set_option maxRecDepth 100000 in
theorem co_X9_wetting : Cond.code yX9_wetting cX9_wetting 8 (some .int) ∈ gt := gt_of 1320 rfl rfl
theorem ins_X9_wetting : Cond.instanceMethod yX9_wetting ∈ gt := gt_of 1318 (by decide +kernel) rfl
theorem sel_X9_wetting : Cond.selects (yX9_wetting).cls yX9_wetting yX9_wetting ∈ gt := gt_of 1319 (by decide +kernel) rfl
theorem mv_L_60 : MV RL 60 yX9_wetting cX9_wetting 8 (some .int) 2 := ⟨Or.inl (gt_of 1317 (by decide +kernel) rfl), ins_X9_wetting, sel_X9_wetting, ini_X9, co_X9_wetting, ⟨by decide +kernel, by decide +kernel, by decide +kernel⟩, by decide⟩
set_option maxRecDepth 100000 in
theorem co_X8_alone : Cond.code yX8_alone cX8_alone 2 (some .int) ∈ gt := gt_of 835 rfl rfl
theorem ins_X8_alone : Cond.instanceMethod yX8_alone ∈ gt := gt_of 833 (by decide +kernel) rfl
theorem sel_X8_alone : Cond.selects (yX8_alone).cls yX8_alone yX8_alone ∈ gt := gt_of 834 (by decide +kernel) rfl
theorem mv_L_61 : MV RL 61 yX8_alone cX8_alone 2 (some .int) 0 := ⟨Or.inl (gt_of 832 (by decide +kernel) rfl), ins_X8_alone, sel_X8_alone, ini_X8, co_X8_alone, ⟨by decide +kernel, by decide +kernel, by decide +kernel⟩, by decide⟩
set_option maxRecDepth 100000 in
theorem co_X9_alone : Cond.code yX9_alone cX9_alone 3 (some .int) ∈ gt := gt_of 1332 rfl rfl
theorem ins_X9_alone : Cond.instanceMethod yX9_alone ∈ gt := gt_of 1330 (by decide +kernel) rfl
theorem sel_X9_alone : Cond.selects (yX9_alone).cls yX9_alone yX9_alone ∈ gt := gt_of 1331 (by decide +kernel) rfl
theorem mv_L_64 : MV RL 64 yX9_alone cX9_alone 3 (some .int) 0 := ⟨Or.inl (gt_of 1329 (by decide +kernel) rfl), ins_X9_alone, sel_X9_alone, ini_X9, co_X9_alone, ⟨by decide +kernel, by decide +kernel, by decide +kernel⟩, by decide⟩
set_option maxRecDepth 100000 in
theorem co_X8_tooWarm : Cond.code yX8_tooWarm cX8_tooWarm 3 (some .int) ∈ gt := gt_of 839 rfl rfl
theorem ins_X8_tooWarm : Cond.instanceMethod yX8_tooWarm ∈ gt := gt_of 837 (by decide +kernel) rfl
theorem sel_X8_tooWarm : Cond.selects (yX8_tooWarm).cls yX8_tooWarm yX8_tooWarm ∈ gt := gt_of 838 (by decide +kernel) rfl
theorem mv_L_65 : MV RL 65 yX8_tooWarm cX8_tooWarm 3 (some .int) 0 := ⟨Or.inl (gt_of 836 (by decide +kernel) rfl), ins_X8_tooWarm, sel_X8_tooWarm, ini_X8, co_X8_tooWarm, ⟨by decide +kernel, by decide +kernel, by decide +kernel⟩, by decide⟩
set_option maxRecDepth 100000 in
theorem co_X9_tooWarm : Cond.code yX9_tooWarm cX9_tooWarm 3 (some .int) ∈ gt := gt_of 1336 rfl rfl
theorem ins_X9_tooWarm : Cond.instanceMethod yX9_tooWarm ∈ gt := gt_of 1334 (by decide +kernel) rfl
theorem sel_X9_tooWarm : Cond.selects (yX9_tooWarm).cls yX9_tooWarm yX9_tooWarm ∈ gt := gt_of 1335 (by decide +kernel) rfl
theorem mv_L_68 : MV RL 68 yX9_tooWarm cX9_tooWarm 3 (some .int) 0 := ⟨Or.inl (gt_of 1333 (by decide +kernel) rfl), ins_X9_tooWarm, sel_X9_tooWarm, ini_X9, co_X9_tooWarm, ⟨by decide +kernel, by decide +kernel, by decide +kernel⟩, by decide⟩
set_option maxRecDepth 100000 in
theorem co_X8_gains : Cond.code yX8_gains cX8_gains 4 (some .int) ∈ gt := gt_of 843 rfl rfl
theorem ins_X8_gains : Cond.instanceMethod yX8_gains ∈ gt := gt_of 841 (by decide +kernel) rfl
theorem sel_X8_gains : Cond.selects (yX8_gains).cls yX8_gains yX8_gains ∈ gt := gt_of 842 (by decide +kernel) rfl
theorem mv_L_69 : MV RL 69 yX8_gains cX8_gains 4 (some .int) 1 := ⟨Or.inl (gt_of 840 (by decide +kernel) rfl), ins_X8_gains, sel_X8_gains, ini_X8, co_X8_gains, ⟨by decide +kernel, by decide +kernel, by decide +kernel⟩, by decide⟩
set_option maxRecDepth 100000 in
theorem co_X9_gains : Cond.code yX9_gains cX9_gains 3 (some .int) ∈ gt := gt_of 1344 rfl rfl
theorem ins_X9_gains : Cond.instanceMethod yX9_gains ∈ gt := gt_of 1342 (by decide +kernel) rfl
theorem sel_X9_gains : Cond.selects (yX9_gains).cls yX9_gains yX9_gains ∈ gt := gt_of 1343 (by decide +kernel) rfl
theorem mv_L_72 : MV RL 72 yX9_gains cX9_gains 3 (some .int) 1 := ⟨Or.inl (gt_of 1341 (by decide +kernel) rfl), ins_X9_gains, sel_X9_gains, ini_X9, co_X9_gains, ⟨by decide +kernel, by decide +kernel, by decide +kernel⟩, by decide⟩
set_option maxRecDepth 100000 in
theorem co_X8_buckets : Cond.code yX8_buckets cX8_buckets 11 (some .int) ∈ gt := gt_of 847 rfl rfl
theorem ins_X8_buckets : Cond.instanceMethod yX8_buckets ∈ gt := gt_of 845 (by decide +kernel) rfl
theorem sel_X8_buckets : Cond.selects (yX8_buckets).cls yX8_buckets yX8_buckets ∈ gt := gt_of 846 (by decide +kernel) rfl
theorem mv_L_73 : MV RL 73 yX8_buckets cX8_buckets 11 (some .int) 2 := ⟨Or.inl (gt_of 844 (by decide +kernel) rfl), ins_X8_buckets, sel_X8_buckets, ini_X8, co_X8_buckets, ⟨by decide +kernel, by decide +kernel, by decide +kernel⟩, by decide⟩
set_option maxRecDepth 100000 in
theorem co_X9_buckets : Cond.code yX9_buckets cX9_buckets 9 (some .int) ∈ gt := gt_of 1348 rfl rfl
theorem ins_X9_buckets : Cond.instanceMethod yX9_buckets ∈ gt := gt_of 1346 (by decide +kernel) rfl
theorem sel_X9_buckets : Cond.selects (yX9_buckets).cls yX9_buckets yX9_buckets ∈ gt := gt_of 1347 (by decide +kernel) rfl
theorem mv_L_76 : MV RL 76 yX9_buckets cX9_buckets 9 (some .int) 2 := ⟨Or.inl (gt_of 1345 (by decide +kernel) rfl), ins_X9_buckets, sel_X9_buckets, ini_X9, co_X9_buckets, ⟨by decide +kernel, by decide +kernel, by decide +kernel⟩, by decide⟩
set_option maxRecDepth 100000 in
theorem co_X8_books : Cond.code yX8_books cX8_books 4 (some .int) ∈ gt := gt_of 851 rfl rfl
theorem ins_X8_books : Cond.instanceMethod yX8_books ∈ gt := gt_of 849 (by decide +kernel) rfl
theorem sel_X8_books : Cond.selects (yX8_books).cls yX8_books yX8_books ∈ gt := gt_of 850 (by decide +kernel) rfl
theorem mv_L_77 : MV RL 77 yX8_books cX8_books 4 (some .int) 2 := ⟨Or.inl (gt_of 848 (by decide +kernel) rfl), ins_X8_books, sel_X8_books, ini_X8, co_X8_books, ⟨by decide +kernel, by decide +kernel, by decide +kernel⟩, by decide⟩
set_option maxRecDepth 100000 in
theorem co_X9_books : Cond.code yX9_books cX9_books 7 (some .int) ∈ gt := gt_of 1353 rfl rfl
theorem ins_X9_books : Cond.instanceMethod yX9_books ∈ gt := gt_of 1351 (by decide +kernel) rfl
theorem sel_X9_books : Cond.selects (yX9_books).cls yX9_books yX9_books ∈ gt := gt_of 1352 (by decide +kernel) rfl
theorem mv_L_80 : MV RL 80 yX9_books cX9_books 7 (some .int) 2 := ⟨Or.inl (gt_of 1350 (by decide +kernel) rfl), ins_X9_books, sel_X9_books, ini_X9, co_X9_books, ⟨by decide +kernel, by decide +kernel, by decide +kernel⟩, by decide⟩
set_option maxRecDepth 100000 in
theorem co_X8_warms : Cond.code yX8_warms cX8_warms 3 (some .long) ∈ gt := gt_of 875 rfl rfl
theorem ins_X8_warms : Cond.instanceMethod yX8_warms ∈ gt := gt_of 873 (by decide +kernel) rfl
theorem sel_X8_warms : Cond.selects (yX8_warms).cls yX8_warms yX8_warms ∈ gt := gt_of 874 (by decide +kernel) rfl
theorem mv_L_81 : MV RL 81 yX8_warms cX8_warms 3 (some .long) 1 := ⟨Or.inl (gt_of 872 (by decide +kernel) rfl), ins_X8_warms, sel_X8_warms, ini_X8, co_X8_warms, ⟨by decide +kernel, by decide +kernel, by decide +kernel⟩, by decide⟩
set_option maxRecDepth 100000 in
theorem co_X9_warms : Cond.code yX9_warms cX9_warms 6 (some .long) ∈ gt := gt_of 1370 rfl rfl
theorem ins_X9_warms : Cond.instanceMethod yX9_warms ∈ gt := gt_of 1368 (by decide +kernel) rfl
theorem sel_X9_warms : Cond.selects (yX9_warms).cls yX9_warms yX9_warms ∈ gt := gt_of 1369 (by decide +kernel) rfl
theorem mv_L_85 : MV RL 85 yX9_warms cX9_warms 6 (some .long) 1 := ⟨Or.inl (gt_of 1367 (by decide +kernel) rfl), ins_X9_warms, sel_X9_warms, ini_X9, co_X9_warms, ⟨by decide +kernel, by decide +kernel, by decide +kernel⟩, by decide⟩
set_option maxRecDepth 100000 in
theorem co_X8_film : Cond.code yX8_film cX8_film 4 (some .int) ∈ gt := gt_of 880 rfl rfl
theorem ins_X8_film : Cond.instanceMethod yX8_film ∈ gt := gt_of 878 (by decide +kernel) rfl
theorem sel_X8_film : Cond.selects (yX8_film).cls yX8_film yX8_film ∈ gt := gt_of 879 (by decide +kernel) rfl
theorem mv_L_86 : MV RL 86 yX8_film cX8_film 4 (some .int) 1 := ⟨Or.inl (gt_of 877 (by decide +kernel) rfl), ins_X8_film, sel_X8_film, ini_X8, co_X8_film, ⟨by decide +kernel, by decide +kernel, by decide +kernel⟩, by decide⟩
set_option maxRecDepth 100000 in
theorem co_X9_film : Cond.code yX9_film cX9_film 3 (some .int) ∈ gt := gt_of 1375 rfl rfl
theorem ins_X9_film : Cond.instanceMethod yX9_film ∈ gt := gt_of 1373 (by decide +kernel) rfl
theorem sel_X9_film : Cond.selects (yX9_film).cls yX9_film yX9_film ∈ gt := gt_of 1374 (by decide +kernel) rfl
theorem mv_L_89 : MV RL 89 yX9_film cX9_film 3 (some .int) 1 := ⟨Or.inl (gt_of 1372 (by decide +kernel) rfl), ins_X9_film, sel_X9_film, ini_X9, co_X9_film, ⟨by decide +kernel, by decide +kernel, by decide +kernel⟩, by decide⟩
set_option maxRecDepth 100000 in
theorem co_X8_drawn : Cond.code yX8_drawn cX8_drawn 2 (some .int) ∈ gt := gt_of 896 rfl rfl
theorem ins_X8_drawn : Cond.instanceMethod yX8_drawn ∈ gt := gt_of 894 (by decide +kernel) rfl
theorem sel_X8_drawn : Cond.selects (yX8_drawn).cls yX8_drawn yX8_drawn ∈ gt := gt_of 895 (by decide +kernel) rfl
theorem mv_L_90 : MV RL 90 yX8_drawn cX8_drawn 2 (some .int) 1 := ⟨Or.inl (gt_of 893 (by decide +kernel) rfl), ins_X8_drawn, sel_X8_drawn, ini_X8, co_X8_drawn, ⟨by decide +kernel, by decide +kernel, by decide +kernel⟩, by decide⟩
set_option maxRecDepth 100000 in
theorem co_X9_drawn : Cond.code yX9_drawn cX9_drawn 2 (some .int) ∈ gt := gt_of 1384 rfl rfl
theorem ins_X9_drawn : Cond.instanceMethod yX9_drawn ∈ gt := gt_of 1382 (by decide +kernel) rfl
theorem sel_X9_drawn : Cond.selects (yX9_drawn).cls yX9_drawn yX9_drawn ∈ gt := gt_of 1383 (by decide +kernel) rfl
theorem mv_L_93 : MV RL 93 yX9_drawn cX9_drawn 2 (some .int) 1 := ⟨Or.inl (gt_of 1381 (by decide +kernel) rfl), ins_X9_drawn, sel_X9_drawn, ini_X9, co_X9_drawn, ⟨by decide +kernel, by decide +kernel, by decide +kernel⟩, by decide⟩
set_option maxRecDepth 100000 in
theorem co_X8_chance : Cond.code yX8_chance cX8_chance 6 (some .long) ∈ gt := gt_of 904 rfl rfl
theorem ins_X8_chance : Cond.instanceMethod yX8_chance ∈ gt := gt_of 902 (by decide +kernel) rfl
theorem sel_X8_chance : Cond.selects (yX8_chance).cls yX8_chance yX8_chance ∈ gt := gt_of 903 (by decide +kernel) rfl
theorem mv_L_94 : MV RL 94 yX8_chance cX8_chance 6 (some .long) 3 := ⟨Or.inl (gt_of 901 (by decide +kernel) rfl), ins_X8_chance, sel_X8_chance, ini_X8, co_X8_chance, ⟨by decide +kernel, by decide +kernel, by decide +kernel⟩, by decide⟩
set_option maxRecDepth 100000 in
theorem co_X9_chance : Cond.code yX9_chance cX9_chance 12 (some .long) ∈ gt := gt_of 1393 rfl rfl
theorem ins_X9_chance : Cond.instanceMethod yX9_chance ∈ gt := gt_of 1391 (by decide +kernel) rfl
theorem sel_X9_chance : Cond.selects (yX9_chance).cls yX9_chance yX9_chance ∈ gt := gt_of 1392 (by decide +kernel) rfl
theorem mv_L_98 : MV RL 98 yX9_chance cX9_chance 12 (some .long) 3 := ⟨Or.inl (gt_of 1390 (by decide +kernel) rfl), ins_X9_chance, sel_X9_chance, ini_X9, co_X9_chance, ⟨by decide +kernel, by decide +kernel, by decide +kernel⟩, by decide⟩
set_option maxRecDepth 100000 in
theorem co_X8_image : Cond.code yX8_image cX8_image 1 (some .int) ∈ gt := gt_of 911 rfl rfl
theorem ins_X8_image : Cond.instanceMethod yX8_image ∈ gt := gt_of 909 (by decide +kernel) rfl
theorem sel_X8_image : Cond.selects (yX8_image).cls yX8_image yX8_image ∈ gt := gt_of 910 (by decide +kernel) rfl
theorem mv_L_99 : MV RL 99 yX8_image cX8_image 1 (some .int) 0 := ⟨Or.inl (gt_of 908 (by decide +kernel) rfl), ins_X8_image, sel_X8_image, ini_X8, co_X8_image, ⟨by decide +kernel, by decide +kernel, by decide +kernel⟩, by decide⟩
set_option maxRecDepth 100000 in
theorem co_X9_image : Cond.code yX9_image cX9_image 2 (some .int) ∈ gt := gt_of 1397 rfl rfl
theorem ins_X9_image : Cond.instanceMethod yX9_image ∈ gt := gt_of 1395 (by decide +kernel) rfl
theorem sel_X9_image : Cond.selects (yX9_image).cls yX9_image yX9_image ∈ gt := gt_of 1396 (by decide +kernel) rfl
theorem mv_L_102 : MV RL 102 yX9_image cX9_image 2 (some .int) 0 := ⟨Or.inl (gt_of 1394 (by decide +kernel) rfl), ins_X9_image, sel_X9_image, ini_X9, co_X9_image, ⟨by decide +kernel, by decide +kernel, by decide +kernel⟩, by decide⟩
set_option maxRecDepth 100000 in
theorem co_X8_back : Cond.code yX8_back cX8_back 1 (some .int) ∈ gt := gt_of 915 rfl rfl
theorem ins_X8_back : Cond.instanceMethod yX8_back ∈ gt := gt_of 913 (by decide +kernel) rfl
theorem sel_X8_back : Cond.selects (yX8_back).cls yX8_back yX8_back ∈ gt := gt_of 914 (by decide +kernel) rfl
theorem mv_L_103 : MV RL 103 yX8_back cX8_back 1 (some .int) 0 := ⟨Or.inl (gt_of 912 (by decide +kernel) rfl), ins_X8_back, sel_X8_back, ini_X8, co_X8_back, ⟨by decide +kernel, by decide +kernel, by decide +kernel⟩, by decide⟩
set_option maxRecDepth 100000 in
theorem co_X9_back : Cond.code yX9_back cX9_back 2 (some .int) ∈ gt := gt_of 1401 rfl rfl
theorem ins_X9_back : Cond.instanceMethod yX9_back ∈ gt := gt_of 1399 (by decide +kernel) rfl
theorem sel_X9_back : Cond.selects (yX9_back).cls yX9_back yX9_back ∈ gt := gt_of 1400 (by decide +kernel) rfl
theorem mv_L_106 : MV RL 106 yX9_back cX9_back 2 (some .int) 0 := ⟨Or.inl (gt_of 1398 (by decide +kernel) rfl), ins_X9_back, sel_X9_back, ini_X9, co_X9_back, ⟨by decide +kernel, by decide +kernel, by decide +kernel⟩, by decide⟩
set_option maxRecDepth 100000 in
theorem co_X8_count : Cond.code yX8_count cX8_count 2 (some .int) ∈ gt := gt_of 919 rfl rfl
theorem ins_X8_count : Cond.instanceMethod yX8_count ∈ gt := gt_of 917 (by decide +kernel) rfl
theorem sel_X8_count : Cond.selects (yX8_count).cls yX8_count yX8_count ∈ gt := gt_of 918 (by decide +kernel) rfl
theorem mv_L_107 : MV RL 107 yX8_count cX8_count 2 (some .int) 1 := ⟨Or.inl (gt_of 916 (by decide +kernel) rfl), ins_X8_count, sel_X8_count, ini_X8, co_X8_count, ⟨by decide +kernel, by decide +kernel, by decide +kernel⟩, by decide⟩
set_option maxRecDepth 100000 in
theorem co_X9_count : Cond.code yX9_count cX9_count 2 (some .int) ∈ gt := gt_of 1405 rfl rfl
theorem ins_X9_count : Cond.instanceMethod yX9_count ∈ gt := gt_of 1403 (by decide +kernel) rfl
theorem sel_X9_count : Cond.selects (yX9_count).cls yX9_count yX9_count ∈ gt := gt_of 1404 (by decide +kernel) rfl
theorem mv_L_110 : MV RL 110 yX9_count cX9_count 2 (some .int) 1 := ⟨Or.inl (gt_of 1402 (by decide +kernel) rfl), ins_X9_count, sel_X9_count, ini_X9, co_X9_count, ⟨by decide +kernel, by decide +kernel, by decide +kernel⟩, by decide⟩
set_option maxRecDepth 100000 in
theorem co_X8_sheet : Cond.code yX8_sheet cX8_sheet 5 (some .int) ∈ gt := gt_of 923 rfl rfl
theorem ins_X8_sheet : Cond.instanceMethod yX8_sheet ∈ gt := gt_of 921 (by decide +kernel) rfl
theorem sel_X8_sheet : Cond.selects (yX8_sheet).cls yX8_sheet yX8_sheet ∈ gt := gt_of 922 (by decide +kernel) rfl
theorem mv_L_111 : MV RL 111 yX8_sheet cX8_sheet 5 (some .int) 3 := ⟨Or.inl (gt_of 920 (by decide +kernel) rfl), ins_X8_sheet, sel_X8_sheet, ini_X8, co_X8_sheet, ⟨by decide +kernel, by decide +kernel, by decide +kernel⟩, by decide⟩
set_option maxRecDepth 100000 in
theorem co_X9_sheet : Cond.code yX9_sheet cX9_sheet 5 (some .int) ∈ gt := gt_of 1379 rfl rfl
theorem ins_X9_sheet : Cond.instanceMethod yX9_sheet ∈ gt := gt_of 1377 (by decide +kernel) rfl
theorem sel_X9_sheet : Cond.selects (yX9_sheet).cls yX9_sheet yX9_sheet ∈ gt := gt_of 1378 (by decide +kernel) rfl
theorem mv_L_114 : MV RL 114 yX9_sheet cX9_sheet 5 (some .int) 3 := ⟨Or.inl (gt_of 1406 (by decide +kernel) rfl), ins_X9_sheet, sel_X9_sheet, ini_X9, co_X9_sheet, ⟨by decide +kernel, by decide +kernel, by decide +kernel⟩, by decide⟩
set_option maxRecDepth 100000 in
theorem co_X8_cell : Cond.code yX8_cell cX8_cell 5 (some .int) ∈ gt := gt_of 927 rfl rfl
theorem ins_X8_cell : Cond.instanceMethod yX8_cell ∈ gt := gt_of 925 (by decide +kernel) rfl
theorem sel_X8_cell : Cond.selects (yX8_cell).cls yX8_cell yX8_cell ∈ gt := gt_of 926 (by decide +kernel) rfl
theorem mv_L_115 : MV RL 115 yX8_cell cX8_cell 5 (some .int) 3 := ⟨Or.inl (gt_of 924 (by decide +kernel) rfl), ins_X8_cell, sel_X8_cell, ini_X8, co_X8_cell, ⟨by decide +kernel, by decide +kernel, by decide +kernel⟩, by decide⟩
set_option maxRecDepth 100000 in
theorem co_X9_cell : Cond.code yX9_cell cX9_cell 4 (some .int) ∈ gt := gt_of 1410 rfl rfl
theorem ins_X9_cell : Cond.instanceMethod yX9_cell ∈ gt := gt_of 1408 (by decide +kernel) rfl
theorem sel_X9_cell : Cond.selects (yX9_cell).cls yX9_cell yX9_cell ∈ gt := gt_of 1409 (by decide +kernel) rfl
theorem mv_L_118 : MV RL 118 yX9_cell cX9_cell 4 (some .int) 3 := ⟨Or.inl (gt_of 1407 (by decide +kernel) rfl), ins_X9_cell, sel_X9_cell, ini_X9, co_X9_cell, ⟨by decide +kernel, by decide +kernel, by decide +kernel⟩, by decide⟩
set_option maxRecDepth 100000 in
theorem co_X8_copy : Cond.code yX8_copy cX8_copy 8 (some .int) ∈ gt := gt_of 932 rfl rfl
theorem ins_X8_copy : Cond.instanceMethod yX8_copy ∈ gt := gt_of 930 (by decide +kernel) rfl
theorem sel_X8_copy : Cond.selects (yX8_copy).cls yX8_copy yX8_copy ∈ gt := gt_of 931 (by decide +kernel) rfl
theorem mv_L_119 : MV RL 119 yX8_copy cX8_copy 8 (some .int) 5 := ⟨Or.inl (gt_of 929 (by decide +kernel) rfl), ins_X8_copy, sel_X8_copy, ini_X8, co_X8_copy, ⟨by decide +kernel, by decide +kernel, by decide +kernel⟩, by decide⟩
set_option maxRecDepth 100000 in
theorem co_X9_copy : Cond.code yX9_copy cX9_copy 9 (some .int) ∈ gt := gt_of 1414 rfl rfl
theorem ins_X9_copy : Cond.instanceMethod yX9_copy ∈ gt := gt_of 1412 (by decide +kernel) rfl
theorem sel_X9_copy : Cond.selects (yX9_copy).cls yX9_copy yX9_copy ∈ gt := gt_of 1413 (by decide +kernel) rfl
theorem mv_L_123 : MV RL 123 yX9_copy cX9_copy 9 (some .int) 5 := ⟨Or.inl (gt_of 1411 (by decide +kernel) rfl), ins_X9_copy, sel_X9_copy, ini_X9, co_X9_copy, ⟨by decide +kernel, by decide +kernel, by decide +kernel⟩, by decide⟩
set_option maxRecDepth 100000 in
theorem co_X8_walls : Cond.code yX8_walls cX8_walls 9 (some .int) ∈ gt := gt_of 943 rfl rfl
theorem ins_X8_walls : Cond.instanceMethod yX8_walls ∈ gt := gt_of 941 (by decide +kernel) rfl
theorem sel_X8_walls : Cond.selects (yX8_walls).cls yX8_walls yX8_walls ∈ gt := gt_of 942 (by decide +kernel) rfl
theorem mv_L_124 : MV RL 124 yX8_walls cX8_walls 9 (some .int) 4 := ⟨Or.inl (gt_of 940 (by decide +kernel) rfl), ins_X8_walls, sel_X8_walls, ini_X8, co_X8_walls, ⟨by decide +kernel, by decide +kernel, by decide +kernel⟩, by decide⟩
set_option maxRecDepth 100000 in
theorem co_X9_walls : Cond.code yX9_walls cX9_walls 8 (some .int) ∈ gt := gt_of 1418 rfl rfl
theorem ins_X9_walls : Cond.instanceMethod yX9_walls ∈ gt := gt_of 1416 (by decide +kernel) rfl
theorem sel_X9_walls : Cond.selects (yX9_walls).cls yX9_walls yX9_walls ∈ gt := gt_of 1417 (by decide +kernel) rfl
theorem mv_L_128 : MV RL 128 yX9_walls cX9_walls 8 (some .int) 4 := ⟨Or.inl (gt_of 1415 (by decide +kernel) rfl), ins_X9_walls, sel_X9_walls, ini_X9, co_X9_walls, ⟨by decide +kernel, by decide +kernel, by decide +kernel⟩, by decide⟩
set_option maxRecDepth 100000 in
theorem co_X8_taken : Cond.code yX8_taken cX8_taken 3 (some .int) ∈ gt := gt_of 948 rfl rfl
theorem ins_X8_taken : Cond.instanceMethod yX8_taken ∈ gt := gt_of 946 (by decide +kernel) rfl
theorem sel_X8_taken : Cond.selects (yX8_taken).cls yX8_taken yX8_taken ∈ gt := gt_of 947 (by decide +kernel) rfl
theorem mv_L_129 : MV RL 129 yX8_taken cX8_taken 3 (some .int) 2 := ⟨Or.inl (gt_of 945 (by decide +kernel) rfl), ins_X8_taken, sel_X8_taken, ini_X8, co_X8_taken, ⟨by decide +kernel, by decide +kernel, by decide +kernel⟩, by decide⟩
set_option maxRecDepth 100000 in
theorem co_X9_taken : Cond.code yX9_taken cX9_taken 4 (some .int) ∈ gt := gt_of 1423 rfl rfl
theorem ins_X9_taken : Cond.instanceMethod yX9_taken ∈ gt := gt_of 1421 (by decide +kernel) rfl
theorem sel_X9_taken : Cond.selects (yX9_taken).cls yX9_taken yX9_taken ∈ gt := gt_of 1422 (by decide +kernel) rfl
theorem mv_L_132 : MV RL 132 yX9_taken cX9_taken 4 (some .int) 2 := ⟨Or.inl (gt_of 1420 (by decide +kernel) rfl), ins_X9_taken, sel_X9_taken, ini_X9, co_X9_taken, ⟨by decide +kernel, by decide +kernel, by decide +kernel⟩, by decide⟩
set_option maxRecDepth 100000 in
theorem co_X9_spell : Cond.code yX9_spell cX9_spell 10 none ∈ gt := gt_of 961 rfl rfl
theorem ins_X9_spell : Cond.instanceMethod yX9_spell ∈ gt := gt_of 960 (by decide +kernel) rfl
theorem sel_X9_spell : Cond.selects (yX9_spell).cls yX9_spell yX9_spell ∈ gt := gt_of 42 (by decide +kernel) rfl
theorem mv_X9_84 : MV RX9 84 yX9_spell cX9_spell 10 none 9 := ⟨Or.inl (gt_of 958 (by decide +kernel) rfl), ins_X9_spell, sel_X9_spell, ini_X9, co_X9_spell, ⟨by decide +kernel, by decide +kernel, by decide +kernel⟩, by decide⟩
set_option maxRecDepth 100000 in
theorem co_X9_in : Cond.code yX9_in cX9_in 6 (some .boolean) ∈ gt := gt_of 1129 rfl rfl
theorem sta_X9_in : Cond.static yX9_in ∈ gt := gt_of 1128 (by decide +kernel) rfl
theorem ms_X9_94 : MS RX9 94 yX9_in cX9_in 6 (some .boolean) 3 := ⟨Or.inl (gt_of 1127 (by decide +kernel) rfl), sta_X9_in, ini_X9, co_X9_in, ⟨by decide +kernel, by decide +kernel, by decide +kernel⟩, by decide⟩
set_option maxRecDepth 100000 in
theorem co_X9_isWall : Cond.code yX9_isWall cX9_isWall 2 (some .boolean) ∈ gt := gt_of 1133 rfl rfl
theorem ins_X9_isWall : Cond.instanceMethod yX9_isWall ∈ gt := gt_of 1132 (by decide +kernel) rfl
theorem sel_X9_isWall : Cond.selects (yX9_isWall).cls yX9_isWall yX9_isWall ∈ gt := gt_of 43 (by decide +kernel) rfl
theorem mv_X9_100 : MV RX9 100 yX9_isWall cX9_isWall 2 (some .boolean) 1 := ⟨Or.inl (gt_of 1130 (by decide +kernel) rfl), ins_X9_isWall, sel_X9_isWall, ini_X9, co_X9_isWall, ⟨by decide +kernel, by decide +kernel, by decide +kernel⟩, by decide⟩
set_option maxRecDepth 100000 in
theorem co_X9_ripensOf : Cond.code yX9_ripensOf cX9_ripensOf 6 (some .int) ∈ gt := gt_of 1149 rfl rfl
theorem ins_X9_ripensOf : Cond.instanceMethod yX9_ripensOf ∈ gt := gt_of 1148 (by decide +kernel) rfl
theorem sel_X9_ripensOf : Cond.selects (yX9_ripensOf).cls yX9_ripensOf yX9_ripensOf ∈ gt := gt_of 44 (by decide +kernel) rfl
theorem mv_X9_112 : MV RX9 112 yX9_ripensOf cX9_ripensOf 6 (some .int) 1 := ⟨Or.inl (gt_of 1146 (by decide +kernel) rfl), ins_X9_ripensOf, sel_X9_ripensOf, ini_X9, co_X9_ripensOf, ⟨by decide +kernel, by decide +kernel, by decide +kernel⟩, by decide⟩
set_option maxRecDepth 100000 in
theorem co_X9_lastsOf : Cond.code yX9_lastsOf cX9_lastsOf 5 (some .int) ∈ gt := gt_of 1231 rfl rfl
theorem ins_X9_lastsOf : Cond.instanceMethod yX9_lastsOf ∈ gt := gt_of 1230 (by decide +kernel) rfl
theorem sel_X9_lastsOf : Cond.selects (yX9_lastsOf).cls yX9_lastsOf yX9_lastsOf ∈ gt := gt_of 62 (by decide +kernel) rfl
theorem mv_X9_116 : MV RX9 116 yX9_lastsOf cX9_lastsOf 5 (some .int) 1 := ⟨Or.inl (gt_of 1228 (by decide +kernel) rfl), ins_X9_lastsOf, sel_X9_lastsOf, ini_X9, co_X9_lastsOf, ⟨by decide +kernel, by decide +kernel, by decide +kernel⟩, by decide⟩
set_option maxRecDepth 100000 in
theorem co_X9_takesOf : Cond.code yX9_takesOf cX9_takesOf 5 (some .int) ∈ gt := gt_of 1235 rfl rfl
theorem ins_X9_takesOf : Cond.instanceMethod yX9_takesOf ∈ gt := gt_of 1234 (by decide +kernel) rfl
theorem sel_X9_takesOf : Cond.selects (yX9_takesOf).cls yX9_takesOf yX9_takesOf ∈ gt := gt_of 63 (by decide +kernel) rfl
theorem mv_X9_119 : MV RX9 119 yX9_takesOf cX9_takesOf 5 (some .int) 1 := ⟨Or.inl (gt_of 1232 (by decide +kernel) rfl), ins_X9_takesOf, sel_X9_takesOf, ini_X9, co_X9_takesOf, ⟨by decide +kernel, by decide +kernel, by decide +kernel⟩, by decide⟩
set_option maxRecDepth 100000 in
theorem co_X9_byteAt : Cond.code yX9_byteAt cX9_byteAt 2 (some .int) ∈ gt := gt_of 1165 rfl rfl
theorem ins_X9_byteAt : Cond.instanceMethod yX9_byteAt ∈ gt := gt_of 1164 (by decide +kernel) rfl
theorem sel_X9_byteAt : Cond.selects (yX9_byteAt).cls yX9_byteAt yX9_byteAt ∈ gt := gt_of 48 (by decide +kernel) rfl
theorem mv_X9_136 : MV RX9 136 yX9_byteAt cX9_byteAt 2 (some .int) 1 := ⟨Or.inl (gt_of 1162 (by decide +kernel) rfl), ins_X9_byteAt, sel_X9_byteAt, ini_X9, co_X9_byteAt, ⟨by decide +kernel, by decide +kernel, by decide +kernel⟩, by decide⟩
set_option maxRecDepth 100000 in
theorem co_X9_isLetter : Cond.code yX9_isLetter cX9_isLetter 3 (some .boolean) ∈ gt := gt_of 1178 rfl rfl
theorem ins_X9_isLetter : Cond.instanceMethod yX9_isLetter ∈ gt := gt_of 1177 (by decide +kernel) rfl
theorem sel_X9_isLetter : Cond.selects (yX9_isLetter).cls yX9_isLetter yX9_isLetter ∈ gt := gt_of 50 (by decide +kernel) rfl
theorem mv_X9_166 : MV RX9 166 yX9_isLetter cX9_isLetter 3 (some .boolean) 2 := ⟨Or.inl (gt_of 1175 (by decide +kernel) rfl), ins_X9_isLetter, sel_X9_isLetter, ini_X9, co_X9_isLetter, ⟨by decide +kernel, by decide +kernel, by decide +kernel⟩, by decide⟩
set_option maxRecDepth 100000 in
theorem co_X9_fail : Cond.code yX9_fail cX9_fail 1 none ∈ gt := gt_of 1186 rfl rfl
theorem ins_X9_fail : Cond.instanceMethod yX9_fail ∈ gt := gt_of 1185 (by decide +kernel) rfl
theorem sel_X9_fail : Cond.selects (yX9_fail).cls yX9_fail yX9_fail ∈ gt := gt_of 52 (by decide +kernel) rfl
theorem mv_X9_173 : MV RX9 173 yX9_fail cX9_fail 1 none 0 := ⟨Or.inl (gt_of 1183 (by decide +kernel) rfl), ins_X9_fail, sel_X9_fail, ini_X9, co_X9_fail, ⟨by decide +kernel, by decide +kernel, by decide +kernel⟩, by decide⟩
set_option maxRecDepth 100000 in
theorem co_X9_next : Cond.code yX9_next cX9_next 3 none ∈ gt := gt_of 1161 rfl rfl
theorem ins_X9_next : Cond.instanceMethod yX9_next ∈ gt := gt_of 1160 (by decide +kernel) rfl
theorem sel_X9_next : Cond.selects (yX9_next).cls yX9_next yX9_next ∈ gt := gt_of 47 (by decide +kernel) rfl
theorem mv_X9_176 : MV RX9 176 yX9_next cX9_next 3 none 0 := ⟨Or.inl (gt_of 1158 (by decide +kernel) rfl), ins_X9_next, sel_X9_next, ini_X9, co_X9_next, ⟨by decide +kernel, by decide +kernel, by decide +kernel⟩, by decide⟩
set_option maxRecDepth 100000 in
theorem co_X9_isWord : Cond.code yX9_isWord cX9_isWord 9 (some .boolean) ∈ gt := gt_of 1174 rfl rfl
theorem ins_X9_isWord : Cond.instanceMethod yX9_isWord ∈ gt := gt_of 1173 (by decide +kernel) rfl
theorem sel_X9_isWord : Cond.selects (yX9_isWord).cls yX9_isWord yX9_isWord ∈ gt := gt_of 49 (by decide +kernel) rfl
theorem mv_X9_179 : MV RX9 179 yX9_isWord cX9_isWord 9 (some .boolean) 8 := ⟨Or.inl (gt_of 1171 (by decide +kernel) rfl), ins_X9_isWord, sel_X9_isWord, ini_X9, co_X9_isWord, ⟨by decide +kernel, by decide +kernel, by decide +kernel⟩, by decide⟩
set_option maxRecDepth 100000 in
theorem co_X9_isSign : Cond.code yX9_isSign cX9_isSign 2 (some .boolean) ∈ gt := gt_of 1218 rfl rfl
theorem ins_X9_isSign : Cond.instanceMethod yX9_isSign ∈ gt := gt_of 1217 (by decide +kernel) rfl
theorem sel_X9_isSign : Cond.selects (yX9_isSign).cls yX9_isSign yX9_isSign ∈ gt := gt_of 60 (by decide +kernel) rfl
theorem mv_X9_201 : MV RX9 201 yX9_isSign cX9_isSign 2 (some .boolean) 1 := ⟨Or.inl (gt_of 1215 (by decide +kernel) rfl), ins_X9_isSign, sel_X9_isSign, ini_X9, co_X9_isSign, ⟨by decide +kernel, by decide +kernel, by decide +kernel⟩, by decide⟩
set_option maxRecDepth 100000 in
theorem co_X9_opens : Cond.code yX9_opens cX9_opens 1 (some .boolean) ∈ gt := gt_of 1202 rfl rfl
theorem ins_X9_opens : Cond.instanceMethod yX9_opens ∈ gt := gt_of 1201 (by decide +kernel) rfl
theorem sel_X9_opens : Cond.selects (yX9_opens).cls yX9_opens yX9_opens ∈ gt := gt_of 56 (by decide +kernel) rfl
theorem mv_X9_204 : MV RX9 204 yX9_opens cX9_opens 1 (some .boolean) 0 := ⟨Or.inl (gt_of 1199 (by decide +kernel) rfl), ins_X9_opens, sel_X9_opens, ini_X9, co_X9_opens, ⟨by decide +kernel, by decide +kernel, by decide +kernel⟩, by decide⟩
set_option maxRecDepth 100000 in
theorem co_X9_atom : Cond.code yX9_atom cX9_atom 2 (some .int) ∈ gt := gt_of 1214 rfl rfl
theorem ins_X9_atom : Cond.instanceMethod yX9_atom ∈ gt := gt_of 1213 (by decide +kernel) rfl
theorem sel_X9_atom : Cond.selects (yX9_atom).cls yX9_atom yX9_atom ∈ gt := gt_of 59 (by decide +kernel) rfl
theorem mv_X9_208 : MV RX9 208 yX9_atom cX9_atom 2 (some .int) 0 := ⟨Or.inl (gt_of 1211 (by decide +kernel) rfl), ins_X9_atom, sel_X9_atom, ini_X9, co_X9_atom, ⟨by decide +kernel, by decide +kernel, by decide +kernel⟩, by decide⟩
set_option maxRecDepth 100000 in
theorem co_X9_either : Cond.code yX9_either cX9_either 3 (some .int) ∈ gt := gt_of 1190 rfl rfl
theorem ins_X9_either : Cond.instanceMethod yX9_either ∈ gt := gt_of 1189 (by decide +kernel) rfl
theorem sel_X9_either : Cond.selects (yX9_either).cls yX9_either yX9_either ∈ gt := gt_of 53 (by decide +kernel) rfl
theorem mv_X9_212 : MV RX9 212 yX9_either cX9_either 3 (some .int) 0 := ⟨Or.inl (gt_of 1187 (by decide +kernel) rfl), ins_X9_either, sel_X9_either, ini_X9, co_X9_either, ⟨by decide +kernel, by decide +kernel, by decide +kernel⟩, by decide⟩
set_option maxRecDepth 100000 in
theorem co_X9_name : Cond.code yX9_name cX9_name 1 (some .int) ∈ gt := gt_of 1222 rfl rfl
theorem ins_X9_name : Cond.instanceMethod yX9_name ∈ gt := gt_of 1221 (by decide +kernel) rfl
theorem sel_X9_name : Cond.selects (yX9_name).cls yX9_name yX9_name ∈ gt := gt_of 61 (by decide +kernel) rfl
theorem mv_X9_215 : MV RX9 215 yX9_name cX9_name 1 (some .int) 0 := ⟨Or.inl (gt_of 1219 (by decide +kernel) rfl), ins_X9_name, sel_X9_name, ini_X9, co_X9_name, ⟨by decide +kernel, by decide +kernel, by decide +kernel⟩, by decide⟩
set_option maxRecDepth 100000 in
theorem co_X9_term : Cond.code yX9_term cX9_term 2 (some .int) ∈ gt := gt_of 1210 rfl rfl
theorem ins_X9_term : Cond.instanceMethod yX9_term ∈ gt := gt_of 1209 (by decide +kernel) rfl
theorem sel_X9_term : Cond.selects (yX9_term).cls yX9_term yX9_term ∈ gt := gt_of 58 (by decide +kernel) rfl
theorem mv_X9_218 : MV RX9 218 yX9_term cX9_term 2 (some .int) 0 := ⟨Or.inl (gt_of 1207 (by decide +kernel) rfl), ins_X9_term, sel_X9_term, ini_X9, co_X9_term, ⟨by decide +kernel, by decide +kernel, by decide +kernel⟩, by decide⟩
set_option maxRecDepth 100000 in
theorem co_X9_not : Cond.code yX9_not cX9_not 4 (some .int) ∈ gt := gt_of 1198 rfl rfl
theorem ins_X9_not : Cond.instanceMethod yX9_not ∈ gt := gt_of 1197 (by decide +kernel) rfl
theorem sel_X9_not : Cond.selects (yX9_not).cls yX9_not yX9_not ∈ gt := gt_of 55 (by decide +kernel) rfl
theorem mv_X9_223 : MV RX9 223 yX9_not cX9_not 4 (some .int) 0 := ⟨Or.inl (gt_of 1195 (by decide +kernel) rfl), ins_X9_not, sel_X9_not, ini_X9, co_X9_not, ⟨by decide +kernel, by decide +kernel, by decide +kernel⟩, by decide⟩
set_option maxRecDepth 100000 in
theorem co_X9_added : Cond.code yX9_added cX9_added 4 (some .int) ∈ gt := gt_of 1206 rfl rfl
theorem ins_X9_added : Cond.instanceMethod yX9_added ∈ gt := gt_of 1205 (by decide +kernel) rfl
theorem sel_X9_added : Cond.selects (yX9_added).cls yX9_added yX9_added ∈ gt := gt_of 57 (by decide +kernel) rfl
theorem mv_X9_226 : MV RX9 226 yX9_added cX9_added 4 (some .int) 0 := ⟨Or.inl (gt_of 1203 (by decide +kernel) rfl), ins_X9_added, sel_X9_added, ini_X9, co_X9_added, ⟨by decide +kernel, by decide +kernel, by decide +kernel⟩, by decide⟩
set_option maxRecDepth 100000 in
theorem co_X9_both : Cond.code yX9_both cX9_both 3 (some .int) ∈ gt := gt_of 1194 rfl rfl
theorem ins_X9_both : Cond.instanceMethod yX9_both ∈ gt := gt_of 1193 (by decide +kernel) rfl
theorem sel_X9_both : Cond.selects (yX9_both).cls yX9_both yX9_both ∈ gt := gt_of 54 (by decide +kernel) rfl
theorem mv_X9_231 : MV RX9 231 yX9_both cX9_both 3 (some .int) 0 := ⟨Or.inl (gt_of 1191 (by decide +kernel) rfl), ins_X9_both, sel_X9_both, ini_X9, co_X9_both, ⟨by decide +kernel, by decide +kernel, by decide +kernel⟩, by decide⟩
set_option maxRecDepth 100000 in
theorem co_X9_part : Cond.code yX9_part cX9_part 3 (some .int) ∈ gt := gt_of 1182 rfl rfl
theorem ins_X9_part : Cond.instanceMethod yX9_part ∈ gt := gt_of 1181 (by decide +kernel) rfl
theorem sel_X9_part : Cond.selects (yX9_part).cls yX9_part yX9_part ∈ gt := gt_of 51 (by decide +kernel) rfl
theorem mv_X9_234 : MV RX9 234 yX9_part cX9_part 3 (some .int) 1 := ⟨Or.inl (gt_of 1179 (by decide +kernel) rfl), ins_X9_part, sel_X9_part, ini_X9, co_X9_part, ⟨by decide +kernel, by decide +kernel, by decide +kernel⟩, by decide⟩
set_option maxRecDepth 100000 in
theorem co_X9_read : Cond.code yX9_read cX9_read 6 (some .int) ∈ gt := gt_of 1157 rfl rfl
theorem ins_X9_read : Cond.instanceMethod yX9_read ∈ gt := gt_of 1156 (by decide +kernel) rfl
theorem sel_X9_read : Cond.selects (yX9_read).cls yX9_read yX9_read ∈ gt := gt_of 46 (by decide +kernel) rfl
theorem mv_X9_238 : MV RX9 238 yX9_read cX9_read 6 (some .int) 2 := ⟨Or.inl (gt_of 1154 (by decide +kernel) rfl), ins_X9_read, sel_X9_read, ini_X9, co_X9_read, ⟨by decide +kernel, by decide +kernel, by decide +kernel⟩, by decide⟩
set_option maxRecDepth 100000 in
theorem co_X9_within : Cond.code yX9_within cX9_within 3 (some .int) ∈ gt := gt_of 1227 rfl rfl
theorem sta_X9_within : Cond.static yX9_within ∈ gt := gt_of 1226 (by decide +kernel) rfl
theorem ms_X9_245 : MS RX9 245 yX9_within cX9_within 3 (some .int) 3 := ⟨Or.inl (gt_of 1225 (by decide +kernel) rfl), sta_X9_within, ini_X9, co_X9_within, ⟨by decide +kernel, by decide +kernel, by decide +kernel⟩, by decide⟩
set_option maxRecDepth 100000 in
theorem co_X9_says : Cond.code yX9_says cX9_says 6 (some .int) ∈ gt := gt_of 1153 rfl rfl
theorem ins_X9_says : Cond.instanceMethod yX9_says ∈ gt := gt_of 1152 (by decide +kernel) rfl
theorem sel_X9_says : Cond.selects (yX9_says).cls yX9_says yX9_says ∈ gt := gt_of 45 (by decide +kernel) rfl
theorem mv_X9_249 : MV RX9 249 yX9_says cX9_says 6 (some .int) 5 := ⟨Or.inl (gt_of 1150 (by decide +kernel) rfl), ins_X9_says, sel_X9_says, ini_X9, co_X9_says, ⟨by decide +kernel, by decide +kernel, by decide +kernel⟩, by decide⟩
set_option maxRecDepth 100000 in
theorem co_X9_toTrowel : Cond.code yX9_toTrowel cX9_toTrowel 5 (some .int) ∈ gt := gt_of 1275 rfl rfl
theorem ins_X9_toTrowel : Cond.instanceMethod yX9_toTrowel ∈ gt := gt_of 1274 (by decide +kernel) rfl
theorem sel_X9_toTrowel : Cond.selects (yX9_toTrowel).cls yX9_toTrowel yX9_toTrowel ∈ gt := gt_of 68 (by decide +kernel) rfl
theorem mv_X9_270 : MV RX9 270 yX9_toTrowel cX9_toTrowel 5 (some .int) 0 := ⟨Or.inl (gt_of 1272 (by decide +kernel) rfl), ins_X9_toTrowel, sel_X9_toTrowel, ini_X9, co_X9_toTrowel, ⟨by decide +kernel, by decide +kernel, by decide +kernel⟩, by decide⟩
set_option maxRecDepth 100000 in
theorem co_X9_trowels : Cond.code yX9_trowels cX9_trowels 4 none ∈ gt := gt_of 1279 rfl rfl
theorem ins_X9_trowels : Cond.instanceMethod yX9_trowels ∈ gt := gt_of 1278 (by decide +kernel) rfl
theorem sel_X9_trowels : Cond.selects (yX9_trowels).cls yX9_trowels yX9_trowels ∈ gt := gt_of 69 (by decide +kernel) rfl
theorem mv_X9_273 : MV RX9 273 yX9_trowels cX9_trowels 4 none 1 := ⟨Or.inl (gt_of 1276 (by decide +kernel) rfl), ins_X9_trowels, sel_X9_trowels, ini_X9, co_X9_trowels, ⟨by decide +kernel, by decide +kernel, by decide +kernel⟩, by decide⟩
set_option maxRecDepth 100000 in
theorem co_X9_begins : Cond.code yX9_begins cX9_begins 2 none ∈ gt := gt_of 1283 rfl rfl
theorem ins_X9_begins : Cond.instanceMethod yX9_begins ∈ gt := gt_of 1282 (by decide +kernel) rfl
theorem sel_X9_begins : Cond.selects (yX9_begins).cls yX9_begins yX9_begins ∈ gt := gt_of 70 (by decide +kernel) rfl
theorem mv_X9_277 : MV RX9 277 yX9_begins cX9_begins 2 none 1 := ⟨Or.inl (gt_of 1280 (by decide +kernel) rfl), ins_X9_begins, sel_X9_begins, ini_X9, co_X9_begins, ⟨by decide +kernel, by decide +kernel, by decide +kernel⟩, by decide⟩
set_option maxRecDepth 100000 in
theorem co_X9_gathers : Cond.code yX9_gathers cX9_gathers 3 none ∈ gt := gt_of 1267 rfl rfl
theorem ins_X9_gathers : Cond.instanceMethod yX9_gathers ∈ gt := gt_of 1266 (by decide +kernel) rfl
theorem sel_X9_gathers : Cond.selects (yX9_gathers).cls yX9_gathers yX9_gathers ∈ gt := gt_of 66 (by decide +kernel) rfl
theorem mv_X9_280 : MV RX9 280 yX9_gathers cX9_gathers 3 none 0 := ⟨Or.inl (gt_of 1264 (by decide +kernel) rfl), ins_X9_gathers, sel_X9_gathers, ini_X9, co_X9_gathers, ⟨by decide +kernel, by decide +kernel, by decide +kernel⟩, by decide⟩
set_option maxRecDepth 100000 in
theorem co_X9_lives : Cond.code yX9_lives cX9_lives 3 none ∈ gt := gt_of 1271 rfl rfl
theorem ins_X9_lives : Cond.instanceMethod yX9_lives ∈ gt := gt_of 1270 (by decide +kernel) rfl
theorem sel_X9_lives : Cond.selects (yX9_lives).cls yX9_lives yX9_lives ∈ gt := gt_of 67 (by decide +kernel) rfl
theorem mv_X9_283 : MV RX9 283 yX9_lives cX9_lives 3 none 0 := ⟨Or.inl (gt_of 1268 (by decide +kernel) rfl), ins_X9_lives, sel_X9_lives, ini_X9, co_X9_lives, ⟨by decide +kernel, by decide +kernel, by decide +kernel⟩, by decide⟩
set_option maxRecDepth 100000 in
theorem co_X9_setOf : Cond.code yX9_setOf cX9_setOf 4 (some .int) ∈ gt := gt_of 1291 rfl rfl
theorem ins_X9_setOf : Cond.instanceMethod yX9_setOf ∈ gt := gt_of 1290 (by decide +kernel) rfl
theorem sel_X9_setOf : Cond.selects (yX9_setOf).cls yX9_setOf yX9_setOf ∈ gt := gt_of 72 (by decide +kernel) rfl
theorem mv_X9_290 : MV RX9 290 yX9_setOf cX9_setOf 4 (some .int) 1 := ⟨Or.inl (gt_of 1288 (by decide +kernel) rfl), ins_X9_setOf, sel_X9_setOf, ini_X9, co_X9_setOf, ⟨by decide +kernel, by decide +kernel, by decide +kernel⟩, by decide⟩
set_option maxRecDepth 100000 in
theorem co_X9_isTells : Cond.code yX9_isTells cX9_isTells 2 (some .boolean) ∈ gt := gt_of 1256 rfl rfl
theorem ins_X9_isTells : Cond.instanceMethod yX9_isTells ∈ gt := gt_of 1255 (by decide +kernel) rfl
theorem sel_X9_isTells : Cond.selects (yX9_isTells).cls yX9_isTells yX9_isTells ∈ gt := gt_of 64 (by decide +kernel) rfl
theorem mv_X9_293 : MV RX9 293 yX9_isTells cX9_isTells 2 (some .boolean) 1 := ⟨Or.inl (gt_of 1253 (by decide +kernel) rfl), ins_X9_isTells, sel_X9_isTells, ini_X9, co_X9_isTells, ⟨by decide +kernel, by decide +kernel, by decide +kernel⟩, by decide⟩
set_option maxRecDepth 100000 in
theorem co_X9_livesPlain : Cond.code yX9_livesPlain cX9_livesPlain 3 none ∈ gt := gt_of 1263 rfl rfl
theorem ins_X9_livesPlain : Cond.instanceMethod yX9_livesPlain ∈ gt := gt_of 1262 (by decide +kernel) rfl
theorem sel_X9_livesPlain : Cond.selects (yX9_livesPlain).cls yX9_livesPlain yX9_livesPlain ∈ gt := gt_of 65 (by decide +kernel) rfl
theorem mv_X9_297 : MV RX9 297 yX9_livesPlain cX9_livesPlain 3 none 1 := ⟨Or.inl (gt_of 1260 (by decide +kernel) rfl), ins_X9_livesPlain, sel_X9_livesPlain, ini_X9, co_X9_livesPlain, ⟨by decide +kernel, by decide +kernel, by decide +kernel⟩, by decide⟩
set_option maxRecDepth 100000 in
theorem co_X9_tells : Cond.code yX9_tells cX9_tells 3 (some .int) ∈ gt := gt_of 1287 rfl rfl
theorem ins_X9_tells : Cond.instanceMethod yX9_tells ∈ gt := gt_of 1286 (by decide +kernel) rfl
theorem sel_X9_tells : Cond.selects (yX9_tells).cls yX9_tells yX9_tells ∈ gt := gt_of 71 (by decide +kernel) rfl
theorem mv_X9_300 : MV RX9 300 yX9_tells cX9_tells 3 (some .int) 1 := ⟨Or.inl (gt_of 1284 (by decide +kernel) rfl), ins_X9_tells, sel_X9_tells, ini_X9, co_X9_tells, ⟨by decide +kernel, by decide +kernel, by decide +kernel⟩, by decide⟩
set_option maxRecDepth 100000 in
theorem co_X9_isSheet : Cond.code yX9_isSheet cX9_isSheet 1 (some .boolean) ∈ gt := gt_of 1298 rfl rfl
theorem sta_X9_isSheet : Cond.static yX9_isSheet ∈ gt := gt_of 1297 (by decide +kernel) rfl
theorem ms_X9_303 : MS RX9 303 yX9_isSheet cX9_isSheet 1 (some .boolean) 1 := ⟨Or.inl (gt_of 1296 (by decide +kernel) rfl), sta_X9_isSheet, ini_X9, co_X9_isSheet, ⟨by decide +kernel, by decide +kernel, by decide +kernel⟩, by decide⟩
set_option maxRecDepth 100000 in
theorem co_X9_laysOrder : Cond.code yX9_laysOrder cX9_laysOrder 5 (some .boolean) ∈ gt := gt_of 1303 rfl rfl
theorem ins_X9_laysOrder : Cond.instanceMethod yX9_laysOrder ∈ gt := gt_of 1302 (by decide +kernel) rfl
theorem sel_X9_laysOrder : Cond.selects (yX9_laysOrder).cls yX9_laysOrder yX9_laysOrder ∈ gt := gt_of 73 (by decide +kernel) rfl
theorem mv_X9_306 : MV RX9 306 yX9_laysOrder cX9_laysOrder 5 (some .boolean) 1 := ⟨Or.inl (gt_of 1300 (by decide +kernel) rfl), ins_X9_laysOrder, sel_X9_laysOrder, ini_X9, co_X9_laysOrder, ⟨by decide +kernel, by decide +kernel, by decide +kernel⟩, by decide⟩
set_option maxRecDepth 100000 in
theorem co_X9_triesFrom : Cond.code yX9_triesFrom cX9_triesFrom 4 none ∈ gt := gt_of 1312 rfl rfl
theorem ins_X9_triesFrom : Cond.instanceMethod yX9_triesFrom ∈ gt := gt_of 1311 (by decide +kernel) rfl
theorem sel_X9_triesFrom : Cond.selects (yX9_triesFrom).cls yX9_triesFrom yX9_triesFrom ∈ gt := gt_of 74 (by decide +kernel) rfl
theorem mv_X9_318 : MV RX9 318 yX9_triesFrom cX9_triesFrom 4 none 2 := ⟨Or.inl (gt_of 1309 (by decide +kernel) rfl), ins_X9_triesFrom, sel_X9_triesFrom, ini_X9, co_X9_triesFrom, ⟨by decide +kernel, by decide +kernel, by decide +kernel⟩, by decide⟩
set_option maxRecDepth 100000 in
theorem co_X9_wet : Cond.code yX9_wet cX9_wet 3 none ∈ gt := gt_of 1325 rfl rfl
theorem ins_X9_wet : Cond.instanceMethod yX9_wet ∈ gt := gt_of 1324 (by decide +kernel) rfl
theorem sel_X9_wet : Cond.selects (yX9_wet).cls yX9_wet yX9_wet ∈ gt := gt_of 75 (by decide +kernel) rfl
theorem mv_X9_326 : MV RX9 326 yX9_wet cX9_wet 3 none 1 := ⟨Or.inl (gt_of 1322 (by decide +kernel) rfl), ins_X9_wet, sel_X9_wet, ini_X9, co_X9_wet, ⟨by decide +kernel, by decide +kernel, by decide +kernel⟩, by decide⟩
set_option maxRecDepth 100000 in
theorem co_X9_bitsOf : Cond.code yX9_bitsOf cX9_bitsOf 3 (some .int) ∈ gt := gt_of 1328 rfl rfl
theorem sta_X9_bitsOf : Cond.static yX9_bitsOf ∈ gt := gt_of 1327 (by decide +kernel) rfl
theorem ms_X9_329 : MS RX9 329 yX9_bitsOf cX9_bitsOf 3 (some .int) 1 := ⟨Or.inl (gt_of 1326 (by decide +kernel) rfl), sta_X9_bitsOf, ini_X9, co_X9_bitsOf, ⟨by decide +kernel, by decide +kernel, by decide +kernel⟩, by decide⟩
set_option maxRecDepth 100000 in
theorem co_X9_livesBy : Cond.code yX9_livesBy cX9_livesBy 4 none ∈ gt := gt_of 1340 rfl rfl
theorem ins_X9_livesBy : Cond.instanceMethod yX9_livesBy ∈ gt := gt_of 1339 (by decide +kernel) rfl
theorem sel_X9_livesBy : Cond.selects (yX9_livesBy).cls yX9_livesBy yX9_livesBy ∈ gt := gt_of 76 (by decide +kernel) rfl
theorem mv_X9_332 : MV RX9 332 yX9_livesBy cX9_livesBy 4 none 2 := ⟨Or.inl (gt_of 1337 (by decide +kernel) rfl), ins_X9_livesBy, sel_X9_livesBy, ini_X9, co_X9_livesBy, ⟨by decide +kernel, by decide +kernel, by decide +kernel⟩, by decide⟩
set_option maxRecDepth 100000 in
theorem co_X9_tellsSort : Cond.code yX9_tellsSort cX9_tellsSort 2 (some .int) ∈ gt := gt_of 1358 rfl rfl
theorem ins_X9_tellsSort : Cond.instanceMethod yX9_tellsSort ∈ gt := gt_of 1357 (by decide +kernel) rfl
theorem sel_X9_tellsSort : Cond.selects (yX9_tellsSort).cls yX9_tellsSort yX9_tellsSort ∈ gt := gt_of 77 (by decide +kernel) rfl
theorem mv_X9_341 : MV RX9 341 yX9_tellsSort cX9_tellsSort 2 (some .int) 1 := ⟨Or.inl (gt_of 1355 (by decide +kernel) rfl), ins_X9_tellsSort, sel_X9_tellsSort, ini_X9, co_X9_tellsSort, ⟨by decide +kernel, by decide +kernel, by decide +kernel⟩, by decide⟩
set_option maxRecDepth 100000 in
theorem co_X9_laysSort : Cond.code yX9_laysSort cX9_laysSort 3 none ∈ gt := gt_of 1362 rfl rfl
theorem ins_X9_laysSort : Cond.instanceMethod yX9_laysSort ∈ gt := gt_of 1361 (by decide +kernel) rfl
theorem sel_X9_laysSort : Cond.selects (yX9_laysSort).cls yX9_laysSort yX9_laysSort ∈ gt := gt_of 78 (by decide +kernel) rfl
theorem mv_X9_344 : MV RX9 344 yX9_laysSort cX9_laysSort 3 none 2 := ⟨Or.inl (gt_of 1359 (by decide +kernel) rfl), ins_X9_laysSort, sel_X9_laysSort, ini_X9, co_X9_laysSort, ⟨by decide +kernel, by decide +kernel, by decide +kernel⟩, by decide⟩
set_option maxRecDepth 100000 in
theorem co_X9_isSo : Cond.code yX9_isSo cX9_isSo 3 (some .boolean) ∈ gt := gt_of 1366 rfl rfl
theorem ins_X9_isSo : Cond.instanceMethod yX9_isSo ∈ gt := gt_of 1365 (by decide +kernel) rfl
theorem sel_X9_isSo : Cond.selects (yX9_isSo).cls yX9_isSo yX9_isSo ∈ gt := gt_of 79 (by decide +kernel) rfl
theorem mv_X9_347 : MV RX9 347 yX9_isSo cX9_isSo 3 (some .boolean) 1 := ⟨Or.inl (gt_of 1363 (by decide +kernel) rfl), ins_X9_isSo, sel_X9_isSo, ini_X9, co_X9_isSo, ⟨by decide +kernel, by decide +kernel, by decide +kernel⟩, by decide⟩
theorem mv_X9_352 : MV RX9 352 yX9_sheet cX9_sheet 5 (some .int) 3 := ⟨Or.inl (gt_of 1376 (by decide +kernel) rfl), ins_X9_sheet, sel_X9_sheet, ini_X9, co_X9_sheet, ⟨by decide +kernel, by decide +kernel, by decide +kernel⟩, by decide⟩
set_option maxRecDepth 100000 in
theorem co_X9_draws : Cond.code yX9_draws cX9_draws 2 none ∈ gt := gt_of 1388 rfl rfl
theorem ins_X9_draws : Cond.instanceMethod yX9_draws ∈ gt := gt_of 1387 (by decide +kernel) rfl
theorem sel_X9_draws : Cond.selects (yX9_draws).cls yX9_draws yX9_draws ∈ gt := gt_of 80 (by decide +kernel) rfl
theorem mv_X9_356 : MV RX9 356 yX9_draws cX9_draws 2 none 1 := ⟨Or.inl (gt_of 1385 (by decide +kernel) rfl), ins_X9_draws, sel_X9_draws, ini_X9, co_X9_draws, ⟨by decide +kernel, by decide +kernel, by decide +kernel⟩, by decide⟩
theorem mv_X9_364 : MV RX9 364 yX9_wall cX9_wall 4 (some .int) 3 := ⟨Or.inl (gt_of 1419 (by decide +kernel) rfl), ins_X9_wall, sel_X9_wall, ini_X9, co_X9_wall, ⟨by decide +kernel, by decide +kernel, by decide +kernel⟩, by decide⟩
set_option maxRecDepth 100000 in
theorem co_X9_over : Cond.code yX9_over cX9_over 1 (some .int) ∈ gt := gt_of 1426 rfl rfl
theorem sta_X9_over : Cond.static yX9_over ∈ gt := gt_of 1425 (by decide +kernel) rfl
theorem ms_X9_367 : MS RX9 367 yX9_over cX9_over 1 (some .int) 1 := ⟨Or.inl (gt_of 1424 (by decide +kernel) rfl), sta_X9_over, ini_X9, co_X9_over, ⟨by decide +kernel, by decide +kernel, by decide +kernel⟩, by decide⟩
set_option maxRecDepth 100000 in
theorem co_J0_coder_7d493 : Cond.code yJ0_coder_7d493 cJ0_coder_7d493 1 (some .byte) ∈ gt := gt_of 346 rfl rfl
theorem ins_J0_coder_7d493 : Cond.instanceMethod yJ0_coder_7d493 ∈ gt := gt_of 344 (by decide +kernel) rfl
theorem sel_J0_coder_7d493 : Cond.selects (yJ0_coder_7d493).cls yJ0_coder_7d493 yJ0_coder_7d493 ∈ gt := gt_of 345 (by decide +kernel) rfl
theorem mv_J0_335 : MV RJ0 335 yJ0_coder_7d493 cJ0_coder_7d493 1 (some .byte) 0 := ⟨Or.inl (gt_of 343 (by decide +kernel) rfl), ins_J0_coder_7d493, sel_J0_coder_7d493, ini_J0, co_J0_coder_7d493, ⟨by decide +kernel, by decide +kernel, by decide +kernel⟩, by decide⟩
set_option maxRecDepth 100000 in
theorem co_J0_isLatin1_aae02 : Cond.code yJ0_isLatin1_aae02 cJ0_isLatin1_aae02 1 (some .boolean) ∈ gt := gt_of 356 rfl rfl
theorem ins_J0_isLatin1_aae02 : Cond.instanceMethod yJ0_isLatin1_aae02 ∈ gt := gt_of 354 (by decide +kernel) rfl
theorem sel_J0_isLatin1_aae02 : Cond.selects (yJ0_isLatin1_aae02).cls yJ0_isLatin1_aae02 yJ0_isLatin1_aae02 ∈ gt := gt_of 355 (by decide +kernel) rfl
theorem mv_J0_492 : MV RJ0 492 yJ0_isLatin1_aae02 cJ0_isLatin1_aae02 1 (some .boolean) 0 := ⟨Or.inl (gt_of 353 (by decide +kernel) rfl), ins_J0_isLatin1_aae02, sel_J0_isLatin1_aae02, ini_J0, co_J0_isLatin1_aae02, ⟨by decide +kernel, by decide +kernel, by decide +kernel⟩, by decide⟩
set_option maxRecDepth 100000 in
theorem co_J1_charAt_3b067 : Cond.code yJ1_charAt_3b067 cJ1_charAt_3b067 2 (some .char) ∈ gt := gt_of 359 rfl rfl
theorem sta_J1_charAt_3b067 : Cond.static yJ1_charAt_3b067 ∈ gt := gt_of 358 (by decide +kernel) rfl
theorem ini_J1 : Cond.initialized RJ1 ∈ gt := gt_of 91 (by decide +kernel) rfl
theorem ms_J0_495 : MS RJ0 495 yJ1_charAt_3b067 cJ1_charAt_3b067 2 (some .char) 2 := ⟨Or.inl (gt_of 357 (by decide +kernel) rfl), sta_J1_charAt_3b067, ini_J1, co_J1_charAt_3b067, ⟨by decide +kernel, by decide +kernel, by decide +kernel⟩, by decide⟩
set_option maxRecDepth 100000 in
theorem co_J2_charAt_3b067 : Cond.code yJ2_charAt_3b067 cJ2_charAt_3b067 2 (some .char) ∈ gt := gt_of 370 rfl rfl
theorem sta_J2_charAt_3b067 : Cond.static yJ2_charAt_3b067 ∈ gt := gt_of 369 (by decide +kernel) rfl
theorem ini_J2 : Cond.initialized RJ2 ∈ gt := gt_of 93 (by decide +kernel) rfl
theorem ms_J0_498 : MS RJ0 498 yJ2_charAt_3b067 cJ2_charAt_3b067 2 (some .char) 2 := ⟨Or.inl (gt_of 368 (by decide +kernel) rfl), sta_J2_charAt_3b067, ini_J2, co_J2_charAt_3b067, ⟨by decide +kernel, by decide +kernel, by decide +kernel⟩, by decide⟩
theorem mv_J0_505 : MV RJ0 505 yJ0_length_8abf5 cJ0_length_8abf5 1 (some .int) 0 := ⟨Or.inl (gt_of 430 (by decide +kernel) rfl), ins_J0_length_8abf5, sel_J0_length_8abf5, ini_J0, co_J0_length_8abf5, ⟨by decide +kernel, by decide +kernel, by decide +kernel⟩, by decide⟩
set_option maxRecDepth 100000 in
theorem co_J0_indexOf_7cf53 : Cond.code yJ0_indexOf_7cf53 cJ0_indexOf_7cf53 3 (some .int) ∈ gt := gt_of 429 rfl rfl
theorem ins_J0_indexOf_7cf53 : Cond.instanceMethod yJ0_indexOf_7cf53 ∈ gt := gt_of 427 (by decide +kernel) rfl
theorem sel_J0_indexOf_7cf53 : Cond.selects (yJ0_indexOf_7cf53).cls yJ0_indexOf_7cf53 yJ0_indexOf_7cf53 ∈ gt := gt_of 428 (by decide +kernel) rfl
theorem mv_J0_633 : MV RJ0 633 yJ0_indexOf_7cf53 cJ0_indexOf_7cf53 3 (some .int) 2 := ⟨Or.inl (gt_of 426 (by decide +kernel) rfl), ins_J0_indexOf_7cf53, sel_J0_indexOf_7cf53, ini_J0, co_J0_indexOf_7cf53, ⟨by decide +kernel, by decide +kernel, by decide +kernel⟩, by decide⟩
set_option maxRecDepth 100000 in
theorem co_J1_indexOf_4cfef : Cond.code yJ1_indexOf_4cfef cJ1_indexOf_4cfef 4 (some .int) ∈ gt := gt_of 433 rfl rfl
theorem sta_J1_indexOf_4cfef : Cond.static yJ1_indexOf_4cfef ∈ gt := gt_of 432 (by decide +kernel) rfl
theorem ms_J0_637 : MS RJ0 637 yJ1_indexOf_4cfef cJ1_indexOf_4cfef 4 (some .int) 4 := ⟨Or.inl (gt_of 431 (by decide +kernel) rfl), sta_J1_indexOf_4cfef, ini_J1, co_J1_indexOf_4cfef, ⟨by decide +kernel, by decide +kernel, by decide +kernel⟩, by decide⟩
set_option maxRecDepth 100000 in
theorem co_J2_indexOf_4cfef : Cond.code yJ2_indexOf_4cfef cJ2_indexOf_4cfef 4 (some .int) ∈ gt := gt_of 448 rfl rfl
theorem sta_J2_indexOf_4cfef : Cond.static yJ2_indexOf_4cfef ∈ gt := gt_of 447 (by decide +kernel) rfl
theorem ms_J0_640 : MS RJ0 640 yJ2_indexOf_4cfef cJ2_indexOf_4cfef 4 (some .int) 4 := ⟨Or.inl (gt_of 446 (by decide +kernel) rfl), sta_J2_indexOf_4cfef, ini_J2, co_J2_indexOf_4cfef, ⟨by decide +kernel, by decide +kernel, by decide +kernel⟩, by decide⟩
set_option maxRecDepth 100000 in
theorem co_J3_checkIndex_8e157 : Cond.code yJ3_checkIndex_8e157 cJ3_checkIndex_8e157 3 (some .int) ∈ gt := gt_of 367 rfl rfl
theorem sta_J3_checkIndex_8e157 : Cond.static yJ3_checkIndex_8e157 ∈ gt := gt_of 366 (by decide +kernel) rfl
theorem ini_J3 : Cond.initialized RJ3 ∈ gt := gt_of 92 (by decide +kernel) rfl
theorem ms_J0_1059 : MS RJ0 1059 yJ3_checkIndex_8e157 cJ3_checkIndex_8e157 3 (some .int) 3 := ⟨Or.inl (gt_of 365 (by decide +kernel) rfl), sta_J3_checkIndex_8e157, ini_J3, co_J3_checkIndex_8e157, ⟨by decide +kernel, by decide +kernel, by decide +kernel⟩, by decide⟩
set_option maxRecDepth 100000 in
theorem co_J3_checkFromToIndex_8c36e : Cond.code yJ3_checkFromToIndex_8c36e cJ3_checkFromToIndex_8c36e 4 (some .int) ∈ gt := gt_of 463 rfl rfl
theorem sta_J3_checkFromToIndex_8c36e : Cond.static yJ3_checkFromToIndex_8c36e ∈ gt := gt_of 462 (by decide +kernel) rfl
theorem ms_J0_1062 : MS RJ0 1062 yJ3_checkFromToIndex_8c36e cJ3_checkFromToIndex_8c36e 4 (some .int) 4 := ⟨Or.inl (gt_of 461 (by decide +kernel) rfl), sta_J3_checkFromToIndex_8c36e, ini_J3, co_J3_checkFromToIndex_8c36e, ⟨by decide +kernel, by decide +kernel, by decide +kernel⟩, by decide⟩
set_option maxRecDepth 100000 in
theorem co_J0_checkIndex_df160 : Cond.code yJ0_checkIndex_df160 cJ0_checkIndex_df160 2 none ∈ gt := gt_of 362 rfl rfl
theorem sta_J0_checkIndex_df160 : Cond.static yJ0_checkIndex_df160 ∈ gt := gt_of 361 (by decide +kernel) rfl
theorem ms_J1_9 : MS RJ1 9 yJ0_checkIndex_df160 cJ0_checkIndex_df160 2 none 2 := ⟨Or.inl (gt_of 360 (by decide +kernel) rfl), sta_J0_checkIndex_df160, ini_J0, co_J0_checkIndex_df160, ⟨by decide +kernel, by decide +kernel, by decide +kernel⟩, by decide⟩
theorem ms_J1_38 : MS RJ1 38 yJ9_min_7cf53 cJ9_min_7cf53 2 (some .int) 2 := ⟨Or.inl (gt_of 440 (by decide +kernel) rfl), sta_J9_min_7cf53, ini_J9, co_J9_min_7cf53, ⟨by decide +kernel, by decide +kernel, by decide +kernel⟩, by decide⟩
set_option maxRecDepth 100000 in
theorem co_J1_canEncode_9a6ad : Cond.code yJ1_canEncode_9a6ad cJ1_canEncode_9a6ad 1 (some .boolean) ∈ gt := gt_of 436 rfl rfl
theorem sta_J1_canEncode_9a6ad : Cond.static yJ1_canEncode_9a6ad ∈ gt := gt_of 435 (by decide +kernel) rfl
theorem ms_J1_88 : MS RJ1 88 yJ1_canEncode_9a6ad cJ1_canEncode_9a6ad 1 (some .boolean) 1 := ⟨Or.inl (gt_of 434 (by decide +kernel) rfl), sta_J1_canEncode_9a6ad, ini_J1, co_J1_canEncode_9a6ad, ⟨by decide +kernel, by decide +kernel, by decide +kernel⟩, by decide⟩
theorem ms_J1_92 : MS RJ1 92 yJ9_max_7cf53 cJ9_max_7cf53 2 (some .int) 2 := ⟨Or.inl (gt_of 437 (by decide +kernel) rfl), sta_J9_max_7cf53, ini_J9, co_J9_max_7cf53, ⟨by decide +kernel, by decide +kernel, by decide +kernel⟩, by decide⟩
set_option maxRecDepth 100000 in
theorem co_J1_indexOfChar_4cfef : Cond.code yJ1_indexOfChar_4cfef cJ1_indexOfChar_4cfef 6 (some .int) ∈ gt := gt_of 445 rfl rfl
theorem sta_J1_indexOfChar_4cfef : Cond.static yJ1_indexOfChar_4cfef ∈ gt := gt_of 444 (by decide +kernel) rfl
theorem ms_J1_95 : MS RJ1 95 yJ1_indexOfChar_4cfef cJ1_indexOfChar_4cfef 6 (some .int) 4 := ⟨Or.inl (gt_of 443 (by decide +kernel) rfl), sta_J1_indexOfChar_4cfef, ini_J1, co_J1_indexOfChar_4cfef, ⟨by decide +kernel, by decide +kernel, by decide +kernel⟩, by decide⟩
set_option maxRecDepth 100000 in
theorem co_J2_length_9d52b : Cond.code yJ2_length_9d52b cJ2_length_9d52b 1 (some .int) ∈ gt := gt_of 376 rfl rfl
theorem sta_J2_length_9d52b : Cond.static yJ2_length_9d52b ∈ gt := gt_of 375 (by decide +kernel) rfl
theorem ms_J2_48 : MS RJ2 48 yJ2_length_9d52b cJ2_length_9d52b 1 (some .int) 1 := ⟨Or.inl (gt_of 374 (by decide +kernel) rfl), sta_J2_length_9d52b, ini_J2, co_J2_length_9d52b, ⟨by decide +kernel, by decide +kernel, by decide +kernel⟩, by decide⟩
set_option maxRecDepth 100000 in
theorem co_J2_checkIndex_2214a : Cond.code yJ2_checkIndex_2214a cJ2_checkIndex_2214a 2 none ∈ gt := gt_of 373 rfl rfl
theorem sta_J2_checkIndex_2214a : Cond.static yJ2_checkIndex_2214a ∈ gt := gt_of 372 (by decide +kernel) rfl
theorem ms_J2_67 : MS RJ2 67 yJ2_checkIndex_2214a cJ2_checkIndex_2214a 2 none 2 := ⟨Or.inl (gt_of 371 (by decide +kernel) rfl), sta_J2_checkIndex_2214a, ini_J2, co_J2_checkIndex_2214a, ⟨by decide +kernel, by decide +kernel, by decide +kernel⟩, by decide⟩
set_option maxRecDepth 100000 in
theorem co_J2_getChar_3b067 : Cond.code yJ2_getChar_3b067 cJ2_getChar_3b067 2 (some .char) ∈ gt := gt_of 380 rfl rfl
theorem sta_J2_getChar_3b067 : Cond.static yJ2_getChar_3b067 ∈ gt := gt_of 379 (by decide +kernel) rfl
theorem ms_J2_71 : MS RJ2 71 yJ2_getChar_3b067 cJ2_getChar_3b067 2 (some .char) 2 := ⟨Or.inl (gt_of 378 (by decide +kernel) rfl), sta_J2_getChar_3b067, ini_J2, co_J2_getChar_3b067, ⟨by decide +kernel, by decide +kernel, by decide +kernel⟩, by decide⟩
set_option maxRecDepth 100000 in
theorem co_J2_checkBoundsBeginEnd_d044e : Cond.code yJ2_checkBoundsBeginEnd_d044e cJ2_checkBoundsBeginEnd_d044e 3 none ∈ gt := gt_of 457 rfl rfl
theorem sta_J2_checkBoundsBeginEnd_d044e : Cond.static yJ2_checkBoundsBeginEnd_d044e ∈ gt := gt_of 456 (by decide +kernel) rfl
theorem ms_J2_96 : MS RJ2 96 yJ2_checkBoundsBeginEnd_d044e cJ2_checkBoundsBeginEnd_d044e 3 none 3 := ⟨Or.inl (gt_of 455 (by decide +kernel) rfl), sta_J2_checkBoundsBeginEnd_d044e, ini_J2, co_J2_checkBoundsBeginEnd_d044e, ⟨by decide +kernel, by decide +kernel, by decide +kernel⟩, by decide⟩
set_option maxRecDepth 100000 in
theorem co_J11_highSurrogate_5068e : Cond.code yJ11_highSurrogate_5068e cJ11_highSurrogate_5068e 1 (some .char) ∈ gt := gt_of 475 rfl rfl
theorem sta_J11_highSurrogate_5068e : Cond.static yJ11_highSurrogate_5068e ∈ gt := gt_of 474 (by decide +kernel) rfl
theorem ini_J11 : Cond.initialized RJ11 ∈ gt := gt_of 95 (by decide +kernel) rfl
theorem ms_J2_157 : MS RJ2 157 yJ11_highSurrogate_5068e cJ11_highSurrogate_5068e 1 (some .char) 1 := ⟨Or.inl (gt_of 473 (by decide +kernel) rfl), sta_J11_highSurrogate_5068e, ini_J11, co_J11_highSurrogate_5068e, ⟨by decide +kernel, by decide +kernel, by decide +kernel⟩, by decide⟩
set_option maxRecDepth 100000 in
theorem co_J11_lowSurrogate_5068e : Cond.code yJ11_lowSurrogate_5068e cJ11_lowSurrogate_5068e 1 (some .char) ∈ gt := gt_of 479 rfl rfl
theorem sta_J11_lowSurrogate_5068e : Cond.static yJ11_lowSurrogate_5068e ∈ gt := gt_of 478 (by decide +kernel) rfl
theorem ms_J2_161 : MS RJ2 161 yJ11_lowSurrogate_5068e cJ11_lowSurrogate_5068e 1 (some .char) 1 := ⟨Or.inl (gt_of 477 (by decide +kernel) rfl), sta_J11_lowSurrogate_5068e, ini_J11, co_J11_lowSurrogate_5068e, ⟨by decide +kernel, by decide +kernel, by decide +kernel⟩, by decide⟩
set_option maxRecDepth 100000 in
theorem co_J11_isValidCodePoint_9a6ad : Cond.code yJ11_isValidCodePoint_9a6ad cJ11_isValidCodePoint_9a6ad 2 (some .boolean) ∈ gt := gt_of 472 rfl rfl
theorem sta_J11_isValidCodePoint_9a6ad : Cond.static yJ11_isValidCodePoint_9a6ad ∈ gt := gt_of 471 (by decide +kernel) rfl
theorem ms_J2_164 : MS RJ2 164 yJ11_isValidCodePoint_9a6ad cJ11_isValidCodePoint_9a6ad 2 (some .boolean) 1 := ⟨Or.inl (gt_of 470 (by decide +kernel) rfl), sta_J11_isValidCodePoint_9a6ad, ini_J11, co_J11_isValidCodePoint_9a6ad, ⟨by decide +kernel, by decide +kernel, by decide +kernel⟩, by decide⟩
theorem ms_J2_183 : MS RJ2 183 yJ9_min_7cf53 cJ9_min_7cf53 2 (some .int) 2 := ⟨Or.inl (gt_of 450 (by decide +kernel) rfl), sta_J9_min_7cf53, ini_J9, co_J9_min_7cf53, ⟨by decide +kernel, by decide +kernel, by decide +kernel⟩, by decide⟩
theorem ms_J2_224 : MS RJ2 224 yJ9_max_7cf53 cJ9_max_7cf53 2 (some .int) 2 := ⟨Or.inl (gt_of 449 (by decide +kernel) rfl), sta_J9_max_7cf53, ini_J9, co_J9_max_7cf53, ⟨by decide +kernel, by decide +kernel, by decide +kernel⟩, by decide⟩
set_option maxRecDepth 100000 in
theorem co_J2_indexOfChar_4cfef : Cond.code yJ2_indexOfChar_4cfef cJ2_indexOfChar_4cfef 4 (some .int) ∈ gt := gt_of 454 rfl rfl
theorem sta_J2_indexOfChar_4cfef : Cond.static yJ2_indexOfChar_4cfef ∈ gt := gt_of 453 (by decide +kernel) rfl
theorem ms_J2_228 : MS RJ2 228 yJ2_indexOfChar_4cfef cJ2_indexOfChar_4cfef 4 (some .int) 4 := ⟨Or.inl (gt_of 452 (by decide +kernel) rfl), sta_J2_indexOfChar_4cfef, ini_J2, co_J2_indexOfChar_4cfef, ⟨by decide +kernel, by decide +kernel, by decide +kernel⟩, by decide⟩
set_option maxRecDepth 100000 in
theorem co_J2_indexOfSupplementary_4cfef : Cond.code yJ2_indexOfSupplementary_4cfef cJ2_indexOfSupplementary_4cfef 7 (some .int) ∈ gt := gt_of 469 rfl rfl
theorem sta_J2_indexOfSupplementary_4cfef : Cond.static yJ2_indexOfSupplementary_4cfef ∈ gt := gt_of 468 (by decide +kernel) rfl
theorem ms_J2_232 : MS RJ2 232 yJ2_indexOfSupplementary_4cfef cJ2_indexOfSupplementary_4cfef 7 (some .int) 4 := ⟨Or.inl (gt_of 467 (by decide +kernel) rfl), sta_J2_indexOfSupplementary_4cfef, ini_J2, co_J2_indexOfSupplementary_4cfef, ⟨by decide +kernel, by decide +kernel, by decide +kernel⟩, by decide⟩
set_option maxRecDepth 100000 in
theorem co_J0_checkBoundsBeginEnd_23922 : Cond.code yJ0_checkBoundsBeginEnd_23922 cJ0_checkBoundsBeginEnd_23922 3 none ∈ gt := gt_of 460 rfl rfl
theorem sta_J0_checkBoundsBeginEnd_23922 : Cond.static yJ0_checkBoundsBeginEnd_23922 ∈ gt := gt_of 459 (by decide +kernel) rfl
theorem ms_J2_241 : MS RJ2 241 yJ0_checkBoundsBeginEnd_23922 cJ0_checkBoundsBeginEnd_23922 3 none 3 := ⟨Or.inl (gt_of 458 (by decide +kernel) rfl), sta_J0_checkBoundsBeginEnd_23922, ini_J0, co_J0_checkBoundsBeginEnd_23922, ⟨by decide +kernel, by decide +kernel, by decide +kernel⟩, by decide⟩
set_option maxRecDepth 100000 in
theorem co_J2_indexOfCharUnsafe_4cfef : Cond.code yJ2_indexOfCharUnsafe_4cfef cJ2_indexOfCharUnsafe_4cfef 5 (some .int) ∈ gt := gt_of 466 rfl rfl
theorem sta_J2_indexOfCharUnsafe_4cfef : Cond.static yJ2_indexOfCharUnsafe_4cfef ∈ gt := gt_of 465 (by decide +kernel) rfl
theorem ms_J2_244 : MS RJ2 244 yJ2_indexOfCharUnsafe_4cfef cJ2_indexOfCharUnsafe_4cfef 5 (some .int) 4 := ⟨Or.inl (gt_of 464 (by decide +kernel) rfl), sta_J2_indexOfCharUnsafe_4cfef, ini_J2, co_J2_indexOfCharUnsafe_4cfef, ⟨by decide +kernel, by decide +kernel, by decide +kernel⟩, by decide⟩
theorem ms_J2_414 : MS RJ2 414 yJ0_checkIndex_df160 cJ0_checkIndex_df160 2 none 2 := ⟨Or.inl (gt_of 377 (by decide +kernel) rfl), sta_J0_checkIndex_df160, ini_J0, co_J0_checkIndex_df160, ⟨by decide +kernel, by decide +kernel, by decide +kernel⟩, by decide⟩
theorem ac_X8_305 : Cond.methodLink RX8 305 arraycopyName ∈ gt := gt_of 937 (by decide +kernel) rfl
theorem ac_n : Cond.native arraycopyName ∈ gt := gt_of 939 (by decide +kernel) rfl
theorem ac_s : Cond.static arraycopyName ∈ gt := gt_of 938 (by decide +kernel) rfl
theorem ac_i : Cond.initialized "java/lang/System" ∈ gt := gt_of 99 (by decide +kernel) rfl
theorem mm_X0_101 : Cond.methodLink RX0 101 Lib.Math.min.name ∈ gt := gt_of 685 (by decide +kernel) rfl
theorem mm_X0_106 : Cond.methodLink RX0 106 Lib.Math.max.name ∈ gt := gt_of 686 (by decide +kernel) rfl
theorem mm_X1_9 : Cond.methodLink RX1 9 Lib.Math.max.name ∈ gt := gt_of 690 (by decide +kernel) rfl
theorem mm_X7_22 : Cond.methodLink RX7 22 Lib.Math.max.name ∈ gt := gt_of 677 (by decide +kernel) rfl
theorem mm_J1_38 : Cond.methodLink RJ1 38 Lib.Math.min.name ∈ gt := gt_of 440 (by decide +kernel) rfl
theorem mm_J1_92 : Cond.methodLink RJ1 92 Lib.Math.max.name ∈ gt := gt_of 437 (by decide +kernel) rfl
theorem mm_J2_183 : Cond.methodLink RJ2 183 Lib.Math.min.name ∈ gt := gt_of 450 (by decide +kernel) rfl
theorem mm_J2_224 : Cond.methodLink RJ2 224 Lib.Math.max.name ∈ gt := gt_of 449 (by decide +kernel) rfl
theorem mm_max_s : Cond.static Lib.Math.max.name ∈ gt := gt_of 438 (by decide +kernel) rfl
theorem mm_max_c : Cond.code Lib.Math.max.name Lib.Math.max.code 2 (some .int) ∈ gt := gt_of 439 (by decide +kernel) rfl
theorem mm_min_s : Cond.static Lib.Math.min.name ∈ gt := gt_of 441 (by decide +kernel) rfl
theorem mm_min_c : Cond.code Lib.Math.min.name Lib.Math.min.code 2 (some .int) ∈ gt := gt_of 442 (by decide +kernel) rfl
theorem mm_i : Cond.initialized "java/lang/Math" ∈ gt := gt_of 94 (by decide +kernel) rfl
end
section
/-! printed by gen1.py -/
theorem dX1_ripens_0 : decode cX1_ripens 0 = .ok (.iload_n 2, 1) := by decide +kernel
theorem dX1_ripens_1 : decode cX1_ripens 1 = .ok (.ifCond .eq 7, 3) := by decide +kernel
theorem dX1_ripens_4 : decode cX1_ripens 4 = .ok (.iload_n 1, 1) := by decide +kernel
theorem dX1_ripens_5 : decode cX1_ripens 5 = .ok (.goto 6, 3) := by decide +kernel
theorem dX1_ripens_8 : decode cX1_ripens 8 = .ok (.iconst 3, 1) := by decide +kernel
theorem dX1_ripens_9 : decode cX1_ripens 9 = .ok (.iload_n 1, 1) := by decide +kernel
theorem dX1_ripens_10 : decode cX1_ripens 10 = .ok (.imul, 1) := by decide +kernel
theorem dX1_ripens_11 : decode cX1_ripens 11 = .ok (.istore 4, 2) := by decide +kernel
theorem dX1_ripens_13 : decode cX1_ripens 13 = .ok (.iload_n 0, 1) := by decide +kernel
theorem dX1_ripens_14 : decode cX1_ripens 14 = .ok (.tableswitch 78 1 4 #[30, 39, 49, 60], 30) := by decide +kernel
theorem dX1_ripens_44 : decode cX1_ripens 44 = .ok (.iconst 1, 1) := by decide +kernel
theorem dX1_ripens_45 : decode cX1_ripens 45 = .ok (.iload_n 3, 1) := by decide +kernel
theorem dX1_ripens_46 : decode cX1_ripens 46 = .ok (.iload 4, 2) := by decide +kernel
theorem dX1_ripens_48 : decode cX1_ripens 48 = .ok (.isub, 1) := by decide +kernel
theorem dX1_ripens_49 : decode cX1_ripens 49 = .ok (.invokestatic 9, 3) := by decide +kernel
theorem dX1_ripens_52 : decode cX1_ripens 52 = .ok (.ireturn, 1) := by decide +kernel
theorem dX1_ripens_53 : decode cX1_ripens 53 = .ok (.iconst 1, 1) := by decide +kernel
theorem dX1_ripens_54 : decode cX1_ripens 54 = .ok (.iload_n 3, 1) := by decide +kernel
theorem dX1_ripens_55 : decode cX1_ripens 55 = .ok (.iconst 2, 1) := by decide +kernel
theorem dX1_ripens_56 : decode cX1_ripens 56 = .ok (.iload_n 1, 1) := by decide +kernel
theorem dX1_ripens_57 : decode cX1_ripens 57 = .ok (.imul, 1) := by decide +kernel
theorem dX1_ripens_58 : decode cX1_ripens 58 = .ok (.iadd, 1) := by decide +kernel
theorem dX1_ripens_59 : decode cX1_ripens 59 = .ok (.invokestatic 9, 3) := by decide +kernel
theorem dX1_ripens_62 : decode cX1_ripens 62 = .ok (.ireturn, 1) := by decide +kernel
theorem dX1_ripens_63 : decode cX1_ripens 63 = .ok (.iconst 1, 1) := by decide +kernel
theorem dX1_ripens_64 : decode cX1_ripens 64 = .ok (.iload_n 3, 1) := by decide +kernel
theorem dX1_ripens_65 : decode cX1_ripens 65 = .ok (.iload 4, 2) := by decide +kernel
theorem dX1_ripens_67 : decode cX1_ripens 67 = .ok (.isub, 1) := by decide +kernel
theorem dX1_ripens_68 : decode cX1_ripens 68 = .ok (.iconst 2, 1) := by decide +kernel
theorem dX1_ripens_69 : decode cX1_ripens 69 = .ok (.idiv, 1) := by decide +kernel
theorem dX1_ripens_70 : decode cX1_ripens 70 = .ok (.invokestatic 9, 3) := by decide +kernel
theorem dX1_ripens_73 : decode cX1_ripens 73 = .ok (.ireturn, 1) := by decide +kernel
theorem dX1_ripens_74 : decode cX1_ripens 74 = .ok (.iconst 1, 1) := by decide +kernel
theorem dX1_ripens_75 : decode cX1_ripens 75 = .ok (.iload_n 2, 1) := by decide +kernel
theorem dX1_ripens_76 : decode cX1_ripens 76 = .ok (.ifCond .eq 7, 3) := by decide +kernel
theorem dX1_ripens_79 : decode cX1_ripens 79 = .ok (.iload_n 3, 1) := by decide +kernel
theorem dX1_ripens_80 : decode cX1_ripens 80 = .ok (.goto 8, 3) := by decide +kernel
theorem dX1_ripens_83 : decode cX1_ripens 83 = .ok (.iload_n 3, 1) := by decide +kernel
theorem dX1_ripens_84 : decode cX1_ripens 84 = .ok (.iconst 2, 1) := by decide +kernel
theorem dX1_ripens_85 : decode cX1_ripens 85 = .ok (.iload_n 1, 1) := by decide +kernel
theorem dX1_ripens_86 : decode cX1_ripens 86 = .ok (.imul, 1) := by decide +kernel
theorem dX1_ripens_87 : decode cX1_ripens 87 = .ok (.iadd, 1) := by decide +kernel
theorem dX1_ripens_88 : decode cX1_ripens 88 = .ok (.invokestatic 9, 3) := by decide +kernel
theorem dX1_ripens_91 : decode cX1_ripens 91 = .ok (.ireturn, 1) := by decide +kernel
theorem dX1_ripens_92 : decode cX1_ripens 92 = .ok (.iconst 1, 1) := by decide +kernel
theorem dX1_ripens_93 : decode cX1_ripens 93 = .ok (.iload_n 3, 1) := by decide +kernel
theorem dX1_ripens_94 : decode cX1_ripens 94 = .ok (.invokestatic 9, 3) := by decide +kernel
theorem dX1_ripens_97 : decode cX1_ripens 97 = .ok (.ireturn, 1) := by decide +kernel
theorem dX1_lasts_0 : decode cX1_lasts 0 = .ok (.iload_n 0, 1) := by decide +kernel
theorem dX1_lasts_1 : decode cX1_lasts 1 = .ok (.tableswitch 56 1 4 #[31, 56, 42, 53], 31) := by decide +kernel
theorem dX1_lasts_32 : decode cX1_lasts 32 = .ok (.iconst 0, 1) := by decide +kernel
theorem dX1_lasts_33 : decode cX1_lasts 33 = .ok (.bipush 10, 2) := by decide +kernel
theorem dX1_lasts_35 : decode cX1_lasts 35 = .ok (.iload_n 1, 1) := by decide +kernel
theorem dX1_lasts_36 : decode cX1_lasts 36 = .ok (.iconst 2, 1) := by decide +kernel
theorem dX1_lasts_37 : decode cX1_lasts 37 = .ok (.idiv, 1) := by decide +kernel
theorem dX1_lasts_38 : decode cX1_lasts 38 = .ok (.isub, 1) := by decide +kernel
theorem dX1_lasts_39 : decode cX1_lasts 39 = .ok (.invokestatic 9, 3) := by decide +kernel
theorem dX1_lasts_42 : decode cX1_lasts 42 = .ok (.ireturn, 1) := by decide +kernel
theorem dX1_lasts_43 : decode cX1_lasts 43 = .ok (.iconst 0, 1) := by decide +kernel
theorem dX1_lasts_44 : decode cX1_lasts 44 = .ok (.bipush 8, 2) := by decide +kernel
theorem dX1_lasts_46 : decode cX1_lasts 46 = .ok (.iload_n 1, 1) := by decide +kernel
theorem dX1_lasts_47 : decode cX1_lasts 47 = .ok (.iconst 2, 1) := by decide +kernel
theorem dX1_lasts_48 : decode cX1_lasts 48 = .ok (.idiv, 1) := by decide +kernel
theorem dX1_lasts_49 : decode cX1_lasts 49 = .ok (.isub, 1) := by decide +kernel
theorem dX1_lasts_50 : decode cX1_lasts 50 = .ok (.invokestatic 9, 3) := by decide +kernel
theorem dX1_lasts_53 : decode cX1_lasts 53 = .ok (.ireturn, 1) := by decide +kernel
theorem dX1_lasts_54 : decode cX1_lasts 54 = .ok (.bipush 15, 2) := by decide +kernel
theorem dX1_lasts_56 : decode cX1_lasts 56 = .ok (.ireturn, 1) := by decide +kernel
theorem dX1_lasts_57 : decode cX1_lasts 57 = .ok (.bipush 10, 2) := by decide +kernel
theorem dX1_lasts_59 : decode cX1_lasts 59 = .ok (.ireturn, 1) := by decide +kernel
theorem dX1_takes_0 : decode cX1_takes 0 = .ok (.iload_n 0, 1) := by decide +kernel
theorem dX1_takes_1 : decode cX1_takes 1 = .ok (.lookupswitch 47 #[(3, 27), (5, 37)], 27) := by decide +kernel
theorem dX1_takes_28 : decode cX1_takes 28 = .ok (.iconst 1, 1) := by decide +kernel
theorem dX1_takes_29 : decode cX1_takes 29 = .ok (.iload_n 1, 1) := by decide +kernel
theorem dX1_takes_30 : decode cX1_takes 30 = .ok (.iload_n 2, 1) := by decide +kernel
theorem dX1_takes_31 : decode cX1_takes 31 = .ok (.imul, 1) := by decide +kernel
theorem dX1_takes_32 : decode cX1_takes 32 = .ok (.iconst 3, 1) := by decide +kernel
theorem dX1_takes_33 : decode cX1_takes 33 = .ok (.iadd, 1) := by decide +kernel
theorem dX1_takes_34 : decode cX1_takes 34 = .ok (.invokestatic 9, 3) := by decide +kernel
theorem dX1_takes_37 : decode cX1_takes 37 = .ok (.ireturn, 1) := by decide +kernel
theorem dX1_takes_38 : decode cX1_takes 38 = .ok (.iconst 1, 1) := by decide +kernel
theorem dX1_takes_39 : decode cX1_takes 39 = .ok (.iconst 2, 1) := by decide +kernel
theorem dX1_takes_40 : decode cX1_takes 40 = .ok (.iload_n 1, 1) := by decide +kernel
theorem dX1_takes_41 : decode cX1_takes 41 = .ok (.imul, 1) := by decide +kernel
theorem dX1_takes_42 : decode cX1_takes 42 = .ok (.iload_n 2, 1) := by decide +kernel
theorem dX1_takes_43 : decode cX1_takes 43 = .ok (.imul, 1) := by decide +kernel
theorem dX1_takes_44 : decode cX1_takes 44 = .ok (.invokestatic 9, 3) := by decide +kernel
theorem dX1_takes_47 : decode cX1_takes 47 = .ok (.ireturn, 1) := by decide +kernel
theorem dX1_takes_48 : decode cX1_takes 48 = .ok (.iconst 1, 1) := by decide +kernel
theorem dX1_takes_49 : decode cX1_takes 49 = .ok (.iload_n 1, 1) := by decide +kernel
theorem dX1_takes_50 : decode cX1_takes 50 = .ok (.iload_n 2, 1) := by decide +kernel
theorem dX1_takes_51 : decode cX1_takes 51 = .ok (.imul, 1) := by decide +kernel
theorem dX1_takes_52 : decode cX1_takes 52 = .ok (.invokestatic 9, 3) := by decide +kernel
theorem dX1_takes_55 : decode cX1_takes 55 = .ok (.ireturn, 1) := by decide +kernel
theorem dX1_isUnder_0 : decode cX1_isUnder 0 = .ok (.iload_n 1, 1) := by decide +kernel
theorem dX1_isUnder_1 : decode cX1_isUnder 1 = .ok (.tableswitch 61 0 2 #[27, 29, 45], 27) := by decide +kernel
theorem dX1_isUnder_28 : decode cX1_isUnder 28 = .ok (.iconst 1, 1) := by decide +kernel
theorem dX1_isUnder_29 : decode cX1_isUnder 29 = .ok (.ireturn, 1) := by decide +kernel
theorem dX1_isUnder_30 : decode cX1_isUnder 30 = .ok (.iload_n 0, 1) := by decide +kernel
theorem dX1_isUnder_31 : decode cX1_isUnder 31 = .ok (.iconst 1, 1) := by decide +kernel
theorem dX1_isUnder_32 : decode cX1_isUnder 32 = .ok (.if_icmp .eq 8, 3) := by decide +kernel
theorem dX1_isUnder_35 : decode cX1_isUnder 35 = .ok (.iload_n 0, 1) := by decide +kernel
theorem dX1_isUnder_36 : decode cX1_isUnder 36 = .ok (.iconst 3, 1) := by decide +kernel
theorem dX1_isUnder_37 : decode cX1_isUnder 37 = .ok (.if_icmp .ne 7, 3) := by decide +kernel
theorem dX1_isUnder_40 : decode cX1_isUnder 40 = .ok (.iconst 1, 1) := by decide +kernel
theorem dX1_isUnder_41 : decode cX1_isUnder 41 = .ok (.goto 4, 3) := by decide +kernel
theorem dX1_isUnder_44 : decode cX1_isUnder 44 = .ok (.iconst 0, 1) := by decide +kernel
theorem dX1_isUnder_45 : decode cX1_isUnder 45 = .ok (.ireturn, 1) := by decide +kernel
theorem dX1_isUnder_46 : decode cX1_isUnder 46 = .ok (.iload_n 0, 1) := by decide +kernel
theorem dX1_isUnder_47 : decode cX1_isUnder 47 = .ok (.iconst 2, 1) := by decide +kernel
theorem dX1_isUnder_48 : decode cX1_isUnder 48 = .ok (.if_icmp .eq 8, 3) := by decide +kernel
theorem dX1_isUnder_51 : decode cX1_isUnder 51 = .ok (.iload_n 0, 1) := by decide +kernel
theorem dX1_isUnder_52 : decode cX1_isUnder 52 = .ok (.iconst 4, 1) := by decide +kernel
theorem dX1_isUnder_53 : decode cX1_isUnder 53 = .ok (.if_icmp .ne 7, 3) := by decide +kernel
theorem dX1_isUnder_56 : decode cX1_isUnder 56 = .ok (.iconst 1, 1) := by decide +kernel
theorem dX1_isUnder_57 : decode cX1_isUnder 57 = .ok (.goto 4, 3) := by decide +kernel
theorem dX1_isUnder_60 : decode cX1_isUnder 60 = .ok (.iconst 0, 1) := by decide +kernel
theorem dX1_isUnder_61 : decode cX1_isUnder 61 = .ok (.ireturn, 1) := by decide +kernel
theorem dX1_isUnder_62 : decode cX1_isUnder 62 = .ok (.iload_n 0, 1) := by decide +kernel
theorem dX1_isUnder_63 : decode cX1_isUnder 63 = .ok (.iload_n 1, 1) := by decide +kernel
theorem dX1_isUnder_64 : decode cX1_isUnder 64 = .ok (.if_icmp .ne 7, 3) := by decide +kernel
theorem dX1_isUnder_67 : decode cX1_isUnder 67 = .ok (.iconst 1, 1) := by decide +kernel
theorem dX1_isUnder_68 : decode cX1_isUnder 68 = .ok (.goto 4, 3) := by decide +kernel
theorem dX1_isUnder_71 : decode cX1_isUnder 71 = .ok (.iconst 0, 1) := by decide +kernel
theorem dX1_isUnder_72 : decode cX1_isUnder 72 = .ok (.ireturn, 1) := by decide +kernel
theorem dX2_clear_0 : decode cX2_clear 0 = .ok (.aload_n 0, 1) := by decide +kernel
theorem dX2_clear_1 : decode cX2_clear 1 = .ok (.iconst 0, 1) := by decide +kernel
theorem dX2_clear_2 : decode cX2_clear 2 = .ok (.putfield 7, 3) := by decide +kernel
theorem dX2_clear_5 : decode cX2_clear 5 = .ok (.return_, 1) := by decide +kernel
theorem dX2_offer_0 : decode cX2_offer 0 = .ok (.aload_n 0, 1) := by decide +kernel
theorem dX2_offer_1 : decode cX2_offer 1 = .ok (.getfield 7, 3) := by decide +kernel
theorem dX2_offer_4 : decode cX2_offer 4 = .ok (.ifCond .eq 27, 3) := by decide +kernel
theorem dX2_offer_7 : decode cX2_offer 7 = .ok (.iload_n 2, 1) := by decide +kernel
theorem dX2_offer_8 : decode cX2_offer 8 = .ok (.aload_n 0, 1) := by decide +kernel
theorem dX2_offer_9 : decode cX2_offer 9 = .ok (.getfield 13, 3) := by decide +kernel
theorem dX2_offer_12 : decode cX2_offer 12 = .ok (.if_icmp .lt 19, 3) := by decide +kernel
theorem dX2_offer_15 : decode cX2_offer 15 = .ok (.iload_n 2, 1) := by decide +kernel
theorem dX2_offer_16 : decode cX2_offer 16 = .ok (.aload_n 0, 1) := by decide +kernel
theorem dX2_offer_17 : decode cX2_offer 17 = .ok (.getfield 13, 3) := by decide +kernel
theorem dX2_offer_20 : decode cX2_offer 20 = .ok (.if_icmp .ne 31, 3) := by decide +kernel
theorem dX2_offer_23 : decode cX2_offer 23 = .ok (.iload_n 3, 1) := by decide +kernel
theorem dX2_offer_24 : decode cX2_offer 24 = .ok (.aload_n 0, 1) := by decide +kernel
theorem dX2_offer_25 : decode cX2_offer 25 = .ok (.getfield 17, 3) := by decide +kernel
theorem dX2_offer_28 : decode cX2_offer 28 = .ok (.if_icmp .ge 23, 3) := by decide +kernel
theorem dX2_offer_31 : decode cX2_offer 31 = .ok (.aload_n 0, 1) := by decide +kernel
theorem dX2_offer_32 : decode cX2_offer 32 = .ok (.iconst 1, 1) := by decide +kernel
theorem dX2_offer_33 : decode cX2_offer 33 = .ok (.putfield 7, 3) := by decide +kernel
theorem dX2_offer_36 : decode cX2_offer 36 = .ok (.aload_n 0, 1) := by decide +kernel
theorem dX2_offer_37 : decode cX2_offer 37 = .ok (.iload_n 1, 1) := by decide +kernel
theorem dX2_offer_38 : decode cX2_offer 38 = .ok (.putfield 20, 3) := by decide +kernel
theorem dX2_offer_41 : decode cX2_offer 41 = .ok (.aload_n 0, 1) := by decide +kernel
theorem dX2_offer_42 : decode cX2_offer 42 = .ok (.iload_n 2, 1) := by decide +kernel
theorem dX2_offer_43 : decode cX2_offer 43 = .ok (.putfield 13, 3) := by decide +kernel
theorem dX2_offer_46 : decode cX2_offer 46 = .ok (.aload_n 0, 1) := by decide +kernel
theorem dX2_offer_47 : decode cX2_offer 47 = .ok (.iload_n 3, 1) := by decide +kernel
theorem dX2_offer_48 : decode cX2_offer 48 = .ok (.putfield 17, 3) := by decide +kernel
theorem dX2_offer_51 : decode cX2_offer 51 = .ok (.return_, 1) := by decide +kernel
theorem dX4_isMissing_0 : decode cX4_isMissing 0 = .ok (.aload_n 0, 1) := by decide +kernel
theorem dX4_isMissing_1 : decode cX4_isMissing 1 = .ok (.getfield 15, 3) := by decide +kernel
theorem dX4_isMissing_4 : decode cX4_isMissing 4 = .ok (.iconst (-1), 1) := by decide +kernel
theorem dX4_isMissing_5 : decode cX4_isMissing 5 = .ok (.if_icmp .ne 7, 3) := by decide +kernel
theorem dX4_isMissing_8 : decode cX4_isMissing 8 = .ok (.iconst 1, 1) := by decide +kernel
theorem dX4_isMissing_9 : decode cX4_isMissing 9 = .ok (.goto 4, 3) := by decide +kernel
theorem dX4_isMissing_12 : decode cX4_isMissing 12 = .ok (.iconst 0, 1) := by decide +kernel
theorem dX4_isMissing_13 : decode cX4_isMissing 13 = .ok (.ireturn, 1) := by decide +kernel
theorem dX4_has_0 : decode cX4_has 0 = .ok (.iload_n 1, 1) := by decide +kernel
theorem dX4_has_1 : decode cX4_has 1 = .ok (.ifCond .lt 21, 3) := by decide +kernel
theorem dX4_has_4 : decode cX4_has 4 = .ok (.iload_n 1, 1) := by decide +kernel
theorem dX4_has_5 : decode cX4_has 5 = .ok (.aload_n 0, 1) := by decide +kernel
theorem dX4_has_6 : decode cX4_has 6 = .ok (.getfield 19, 3) := by decide +kernel
theorem dX4_has_9 : decode cX4_has 9 = .ok (.if_icmp .ge 13, 3) := by decide +kernel
theorem dX4_has_12 : decode cX4_has 12 = .ok (.iload_n 1, 1) := by decide +kernel
theorem dX4_has_13 : decode cX4_has 13 = .ok (.bipush 40, 2) := by decide +kernel
theorem dX4_has_15 : decode cX4_has 15 = .ok (.if_icmp .ge 7, 3) := by decide +kernel
theorem dX4_has_18 : decode cX4_has 18 = .ok (.iconst 1, 1) := by decide +kernel
theorem dX4_has_19 : decode cX4_has 19 = .ok (.goto 4, 3) := by decide +kernel
theorem dX4_has_22 : decode cX4_has 22 = .ok (.iconst 0, 1) := by decide +kernel
theorem dX4_has_23 : decode cX4_has 23 = .ok (.ireturn, 1) := by decide +kernel
theorem dX4_hasRun_0 : decode cX4_hasRun 0 = .ok (.iload_n 2, 1) := by decide +kernel
theorem dX4_hasRun_1 : decode cX4_hasRun 1 = .ok (.ifCond .lt 29, 3) := by decide +kernel
theorem dX4_hasRun_4 : decode cX4_hasRun 4 = .ok (.iload_n 2, 1) := by decide +kernel
theorem dX4_hasRun_5 : decode cX4_hasRun 5 = .ok (.aload_n 0, 1) := by decide +kernel
theorem dX4_hasRun_6 : decode cX4_hasRun 6 = .ok (.getfield 19, 3) := by decide +kernel
theorem dX4_hasRun_9 : decode cX4_hasRun 9 = .ok (.if_icmp .gt 21, 3) := by decide +kernel
theorem dX4_hasRun_12 : decode cX4_hasRun 12 = .ok (.iload_n 1, 1) := by decide +kernel
theorem dX4_hasRun_13 : decode cX4_hasRun 13 = .ok (.ifCond .lt 17, 3) := by decide +kernel
theorem dX4_hasRun_16 : decode cX4_hasRun 16 = .ok (.iload_n 1, 1) := by decide +kernel
theorem dX4_hasRun_17 : decode cX4_hasRun 17 = .ok (.aload_n 0, 1) := by decide +kernel
theorem dX4_hasRun_18 : decode cX4_hasRun 18 = .ok (.getfield 19, 3) := by decide +kernel
theorem dX4_hasRun_21 : decode cX4_hasRun 21 = .ok (.iload_n 2, 1) := by decide +kernel
theorem dX4_hasRun_22 : decode cX4_hasRun 22 = .ok (.isub, 1) := by decide +kernel
theorem dX4_hasRun_23 : decode cX4_hasRun 23 = .ok (.if_icmp .gt 7, 3) := by decide +kernel
theorem dX4_hasRun_26 : decode cX4_hasRun 26 = .ok (.iconst 1, 1) := by decide +kernel
theorem dX4_hasRun_27 : decode cX4_hasRun 27 = .ok (.goto 4, 3) := by decide +kernel
theorem dX4_hasRun_30 : decode cX4_hasRun 30 = .ok (.iconst 0, 1) := by decide +kernel
theorem dX4_hasRun_31 : decode cX4_hasRun 31 = .ok (.ireturn, 1) := by decide +kernel
theorem dX4_become_0 : decode cX4_become 0 = .ok (.aload_n 0, 1) := by decide +kernel
theorem dX4_become_1 : decode cX4_become 1 = .ok (.iload_n 1, 1) := by decide +kernel
theorem dX4_become_2 : decode cX4_become 2 = .ok (.putfield 15, 3) := by decide +kernel
theorem dX4_become_5 : decode cX4_become 5 = .ok (.aload_n 0, 1) := by decide +kernel
theorem dX4_become_6 : decode cX4_become 6 = .ok (.iload_n 2, 1) := by decide +kernel
theorem dX4_become_7 : decode cX4_become 7 = .ok (.putfield 19, 3) := by decide +kernel
theorem dX4_become_10 : decode cX4_become 10 = .ok (.iconst 0, 1) := by decide +kernel
theorem dX4_become_11 : decode cX4_become 11 = .ok (.istore_n 3, 1) := by decide +kernel
theorem dX4_become_12 : decode cX4_become 12 = .ok (.iload_n 3, 1) := by decide +kernel
theorem dX4_become_13 : decode cX4_become 13 = .ok (.bipush 40, 2) := by decide +kernel
theorem dX4_become_15 : decode cX4_become 15 = .ok (.if_icmp .ge 16, 3) := by decide +kernel
theorem dX4_become_18 : decode cX4_become 18 = .ok (.aload_n 0, 1) := by decide +kernel
theorem dX4_become_19 : decode cX4_become 19 = .ok (.getfield 9, 3) := by decide +kernel
theorem dX4_become_22 : decode cX4_become 22 = .ok (.iload_n 3, 1) := by decide +kernel
theorem dX4_become_23 : decode cX4_become 23 = .ok (.iconst 0, 1) := by decide +kernel
theorem dX4_become_24 : decode cX4_become 24 = .ok (.iastore, 1) := by decide +kernel
theorem dX4_become_25 : decode cX4_become 25 = .ok (.iinc 3 1, 3) := by decide +kernel
theorem dX4_become_28 : decode cX4_become 28 = .ok (.goto (-16), 3) := by decide +kernel
theorem dX4_become_31 : decode cX4_become 31 = .ok (.return_, 1) := by decide +kernel
theorem dX4_put_0 : decode cX4_put 0 = .ok (.aload_n 0, 1) := by decide +kernel
theorem dX4_put_1 : decode cX4_put 1 = .ok (.iload_n 1, 1) := by decide +kernel
theorem dX4_put_2 : decode cX4_put 2 = .ok (.invokevirtual 22, 3) := by decide +kernel
theorem dX4_put_5 : decode cX4_put 5 = .ok (.ifCond .eq 35, 3) := by decide +kernel
theorem dX4_put_8 : decode cX4_put 8 = .ok (.aload_n 0, 1) := by decide +kernel
theorem dX4_put_9 : decode cX4_put 9 = .ok (.getfield 9, 3) := by decide +kernel
theorem dX4_put_12 : decode cX4_put 12 = .ok (.iload_n 1, 1) := by decide +kernel
theorem dX4_put_13 : decode cX4_put 13 = .ok (.aload_n 0, 1) := by decide +kernel
theorem dX4_put_14 : decode cX4_put 14 = .ok (.getfield 15, 3) := by decide +kernel
theorem dX4_put_17 : decode cX4_put 17 = .ok (.ifCond .ne 8, 3) := by decide +kernel
theorem dX4_put_20 : decode cX4_put 20 = .ok (.iload_n 2, 1) := by decide +kernel
theorem dX4_put_21 : decode cX4_put 21 = .ok (.i2b, 1) := by decide +kernel
theorem dX4_put_22 : decode cX4_put 22 = .ok (.goto 17, 3) := by decide +kernel
theorem dX4_put_25 : decode cX4_put 25 = .ok (.aload_n 0, 1) := by decide +kernel
theorem dX4_put_26 : decode cX4_put 26 = .ok (.getfield 15, 3) := by decide +kernel
theorem dX4_put_29 : decode cX4_put 29 = .ok (.iconst 1, 1) := by decide +kernel
theorem dX4_put_30 : decode cX4_put 30 = .ok (.if_icmp .ne 8, 3) := by decide +kernel
theorem dX4_put_33 : decode cX4_put 33 = .ok (.iload_n 2, 1) := by decide +kernel
theorem dX4_put_34 : decode cX4_put 34 = .ok (.i2s, 1) := by decide +kernel
theorem dX4_put_35 : decode cX4_put 35 = .ok (.goto 4, 3) := by decide +kernel
theorem dX4_put_38 : decode cX4_put 38 = .ok (.iload_n 2, 1) := by decide +kernel
theorem dX4_put_39 : decode cX4_put 39 = .ok (.iastore, 1) := by decide +kernel
theorem dX4_put_40 : decode cX4_put 40 = .ok (.return_, 1) := by decide +kernel
theorem dX5_has_0 : decode cX5_has 0 = .ok (.iload_n 1, 1) := by decide +kernel
theorem dX5_has_1 : decode cX5_has 1 = .ok (.ifCond .lt 21, 3) := by decide +kernel
theorem dX5_has_4 : decode cX5_has 4 = .ok (.iload_n 1, 1) := by decide +kernel
theorem dX5_has_5 : decode cX5_has 5 = .ok (.aload_n 0, 1) := by decide +kernel
theorem dX5_has_6 : decode cX5_has 6 = .ok (.getfield 27, 3) := by decide +kernel
theorem dX5_has_9 : decode cX5_has 9 = .ok (.if_icmp .ge 13, 3) := by decide +kernel
theorem dX5_has_12 : decode cX5_has 12 = .ok (.iload_n 1, 1) := by decide +kernel
theorem dX5_has_13 : decode cX5_has 13 = .ok (.bipush 6, 2) := by decide +kernel
theorem dX5_has_15 : decode cX5_has 15 = .ok (.if_icmp .ge 7, 3) := by decide +kernel
theorem dX5_has_18 : decode cX5_has 18 = .ok (.iconst 1, 1) := by decide +kernel
theorem dX5_has_19 : decode cX5_has 19 = .ok (.goto 4, 3) := by decide +kernel
theorem dX5_has_22 : decode cX5_has 22 = .ok (.iconst 0, 1) := by decide +kernel
theorem dX5_has_23 : decode cX5_has 23 = .ok (.ireturn, 1) := by decide +kernel
theorem dX5_turn_0 : decode cX5_turn 0 = .ok (.iload_n 1, 1) := by decide +kernel
theorem dX5_turn_1 : decode cX5_turn 1 = .ok (.ifCond .lt 15, 3) := by decide +kernel
theorem dX5_turn_4 : decode cX5_turn 4 = .ok (.iload_n 1, 1) := by decide +kernel
theorem dX5_turn_5 : decode cX5_turn 5 = .ok (.iconst 5, 1) := by decide +kernel
theorem dX5_turn_6 : decode cX5_turn 6 = .ok (.if_icmp .gt 10, 3) := by decide +kernel
theorem dX5_turn_9 : decode cX5_turn 9 = .ok (.aload_n 0, 1) := by decide +kernel
theorem dX5_turn_10 : decode cX5_turn 10 = .ok (.getfield 9, 3) := by decide +kernel
theorem dX5_turn_13 : decode cX5_turn 13 = .ok (.iload_n 1, 1) := by decide +kernel
theorem dX5_turn_14 : decode cX5_turn 14 = .ok (.iload_n 2, 1) := by decide +kernel
theorem dX5_turn_15 : decode cX5_turn 15 = .ok (.iastore, 1) := by decide +kernel
theorem dX5_turn_16 : decode cX5_turn 16 = .ok (.return_, 1) := by decide +kernel
theorem dX5_rowOf_0 : decode cX5_rowOf 0 = .ok (.iload_n 1, 1) := by decide +kernel
theorem dX5_rowOf_1 : decode cX5_rowOf 1 = .ok (.tableswitch 42 6 8 #[27, 32, 37], 27) := by decide +kernel
theorem dX5_rowOf_28 : decode cX5_rowOf 28 = .ok (.aload_n 0, 1) := by decide +kernel
theorem dX5_rowOf_29 : decode cX5_rowOf 29 = .ok (.getfield 18, 3) := by decide +kernel
theorem dX5_rowOf_32 : decode cX5_rowOf 32 = .ok (.areturn, 1) := by decide +kernel
theorem dX5_rowOf_33 : decode cX5_rowOf 33 = .ok (.aload_n 0, 1) := by decide +kernel
theorem dX5_rowOf_34 : decode cX5_rowOf 34 = .ok (.getfield 21, 3) := by decide +kernel
theorem dX5_rowOf_37 : decode cX5_rowOf 37 = .ok (.areturn, 1) := by decide +kernel
theorem dX5_rowOf_38 : decode cX5_rowOf 38 = .ok (.aload_n 0, 1) := by decide +kernel
theorem dX5_rowOf_39 : decode cX5_rowOf 39 = .ok (.getfield 24, 3) := by decide +kernel
theorem dX5_rowOf_42 : decode cX5_rowOf 42 = .ok (.areturn, 1) := by decide +kernel
theorem dX5_rowOf_43 : decode cX5_rowOf 43 = .ok (.aload_n 0, 1) := by decide +kernel
theorem dX5_rowOf_44 : decode cX5_rowOf 44 = .ok (.getfield 9, 3) := by decide +kernel
theorem dX5_rowOf_47 : decode cX5_rowOf 47 = .ok (.areturn, 1) := by decide +kernel
theorem dX5_add_0 : decode cX5_add 0 = .ok (.aload_n 0, 1) := by decide +kernel
theorem dX5_add_1 : decode cX5_add 1 = .ok (.getfield 27, 3) := by decide +kernel
theorem dX5_add_4 : decode cX5_add 4 = .ok (.ifCond .lt 12, 3) := by decide +kernel
theorem dX5_add_7 : decode cX5_add 7 = .ok (.aload_n 0, 1) := by decide +kernel
theorem dX5_add_8 : decode cX5_add 8 = .ok (.getfield 27, 3) := by decide +kernel
theorem dX5_add_11 : decode cX5_add 11 = .ok (.bipush 6, 2) := by decide +kernel
theorem dX5_add_13 : decode cX5_add 13 = .ok (.if_icmp .lt 6, 3) := by decide +kernel
theorem dX5_add_16 : decode cX5_add 16 = .ok (.bipush (-4), 2) := by decide +kernel
theorem dX5_add_18 : decode cX5_add 18 = .ok (.ireturn, 1) := by decide +kernel
theorem dX5_add_19 : decode cX5_add 19 = .ok (.aload_n 0, 1) := by decide +kernel
theorem dX5_add_20 : decode cX5_add 20 = .ok (.getfield 15, 3) := by decide +kernel
theorem dX5_add_23 : decode cX5_add 23 = .ok (.aload_n 0, 1) := by decide +kernel
theorem dX5_add_24 : decode cX5_add 24 = .ok (.getfield 27, 3) := by decide +kernel
theorem dX5_add_27 : decode cX5_add 27 = .ok (.iload_n 1, 1) := by decide +kernel
theorem dX5_add_28 : decode cX5_add 28 = .ok (.iastore, 1) := by decide +kernel
theorem dX5_add_29 : decode cX5_add 29 = .ok (.aload_n 0, 1) := by decide +kernel
theorem dX5_add_30 : decode cX5_add 30 = .ok (.getfield 18, 3) := by decide +kernel
theorem dX5_add_33 : decode cX5_add 33 = .ok (.aload_n 0, 1) := by decide +kernel
theorem dX5_add_34 : decode cX5_add 34 = .ok (.getfield 27, 3) := by decide +kernel
theorem dX5_add_37 : decode cX5_add 37 = .ok (.iload_n 2, 1) := by decide +kernel
theorem dX5_add_38 : decode cX5_add 38 = .ok (.iastore, 1) := by decide +kernel
theorem dX5_add_39 : decode cX5_add 39 = .ok (.aload_n 0, 1) := by decide +kernel
theorem dX5_add_40 : decode cX5_add 40 = .ok (.getfield 21, 3) := by decide +kernel
theorem dX5_add_43 : decode cX5_add 43 = .ok (.aload_n 0, 1) := by decide +kernel
theorem dX5_add_44 : decode cX5_add 44 = .ok (.getfield 27, 3) := by decide +kernel
theorem dX5_add_47 : decode cX5_add 47 = .ok (.iload_n 3, 1) := by decide +kernel
theorem dX5_add_48 : decode cX5_add 48 = .ok (.iastore, 1) := by decide +kernel
theorem dX5_add_49 : decode cX5_add 49 = .ok (.aload_n 0, 1) := by decide +kernel
theorem dX5_add_50 : decode cX5_add 50 = .ok (.getfield 24, 3) := by decide +kernel
theorem dX5_add_53 : decode cX5_add 53 = .ok (.aload_n 0, 1) := by decide +kernel
theorem dX5_add_54 : decode cX5_add 54 = .ok (.getfield 27, 3) := by decide +kernel
theorem dX5_add_57 : decode cX5_add 57 = .ok (.iconst 0, 1) := by decide +kernel
theorem dX5_add_58 : decode cX5_add 58 = .ok (.iastore, 1) := by decide +kernel
theorem dX5_add_59 : decode cX5_add 59 = .ok (.aload_n 0, 1) := by decide +kernel
theorem dX5_add_60 : decode cX5_add 60 = .ok (.dup, 1) := by decide +kernel
theorem dX5_add_61 : decode cX5_add 61 = .ok (.getfield 27, 3) := by decide +kernel
theorem dX5_add_64 : decode cX5_add 64 = .ok (.iconst 1, 1) := by decide +kernel
theorem dX5_add_65 : decode cX5_add 65 = .ok (.iadd, 1) := by decide +kernel
theorem dX5_add_66 : decode cX5_add 66 = .ok (.putfield 27, 3) := by decide +kernel
theorem dX5_add_69 : decode cX5_add 69 = .ok (.aload_n 0, 1) := by decide +kernel
theorem dX5_add_70 : decode cX5_add 70 = .ok (.getfield 27, 3) := by decide +kernel
theorem dX5_add_73 : decode cX5_add 73 = .ok (.iconst 1, 1) := by decide +kernel
theorem dX5_add_74 : decode cX5_add 74 = .ok (.isub, 1) := by decide +kernel
theorem dX5_add_75 : decode cX5_add 75 = .ok (.ireturn, 1) := by decide +kernel
theorem dX5_wetJust_0 : decode cX5_wetJust 0 = .ok (.iconst 0, 1) := by decide +kernel
theorem dX5_wetJust_1 : decode cX5_wetJust 1 = .ok (.istore_n 2, 1) := by decide +kernel
theorem dX5_wetJust_2 : decode cX5_wetJust 2 = .ok (.iload_n 2, 1) := by decide +kernel
theorem dX5_wetJust_3 : decode cX5_wetJust 3 = .ok (.bipush 6, 2) := by decide +kernel
theorem dX5_wetJust_5 : decode cX5_wetJust 5 = .ok (.if_icmp .ge 20, 3) := by decide +kernel
theorem dX5_wetJust_8 : decode cX5_wetJust 8 = .ok (.aload_n 0, 1) := by decide +kernel
theorem dX5_wetJust_9 : decode cX5_wetJust 9 = .ok (.getfield 24, 3) := by decide +kernel
theorem dX5_wetJust_12 : decode cX5_wetJust 12 = .ok (.iload_n 2, 1) := by decide +kernel
theorem dX5_wetJust_13 : decode cX5_wetJust 13 = .ok (.iload_n 1, 1) := by decide +kernel
theorem dX5_wetJust_14 : decode cX5_wetJust 14 = .ok (.iload_n 2, 1) := by decide +kernel
theorem dX5_wetJust_15 : decode cX5_wetJust 15 = .ok (.ishr, 1) := by decide +kernel
theorem dX5_wetJust_16 : decode cX5_wetJust 16 = .ok (.iconst 1, 1) := by decide +kernel
theorem dX5_wetJust_17 : decode cX5_wetJust 17 = .ok (.iand, 1) := by decide +kernel
theorem dX5_wetJust_18 : decode cX5_wetJust 18 = .ok (.iastore, 1) := by decide +kernel
theorem dX5_wetJust_19 : decode cX5_wetJust 19 = .ok (.iinc 2 1, 3) := by decide +kernel
theorem dX5_wetJust_22 : decode cX5_wetJust 22 = .ok (.goto (-20), 3) := by decide +kernel
theorem dX5_wetJust_25 : decode cX5_wetJust 25 = .ok (.return_, 1) := by decide +kernel
theorem dX5_become_0 : decode cX5_become 0 = .ok (.iconst 0, 1) := by decide +kernel
theorem dX5_become_1 : decode cX5_become 1 = .ok (.istore_n 2, 1) := by decide +kernel
theorem dX5_become_2 : decode cX5_become 2 = .ok (.iload_n 2, 1) := by decide +kernel
theorem dX5_become_3 : decode cX5_become 3 = .ok (.iconst 5, 1) := by decide +kernel
theorem dX5_become_4 : decode cX5_become 4 = .ok (.if_icmp .gt 21, 3) := by decide +kernel
theorem dX5_become_7 : decode cX5_become 7 = .ok (.aload_n 0, 1) := by decide +kernel
theorem dX5_become_8 : decode cX5_become 8 = .ok (.getfield 9, 3) := by decide +kernel
theorem dX5_become_11 : decode cX5_become 11 = .ok (.iload_n 2, 1) := by decide +kernel
theorem dX5_become_12 : decode cX5_become 12 = .ok (.aload_n 1, 1) := by decide +kernel
theorem dX5_become_13 : decode cX5_become 13 = .ok (.getfield 9, 3) := by decide +kernel
theorem dX5_become_16 : decode cX5_become 16 = .ok (.iload_n 2, 1) := by decide +kernel
theorem dX5_become_17 : decode cX5_become 17 = .ok (.iaload, 1) := by decide +kernel
theorem dX5_become_18 : decode cX5_become 18 = .ok (.iastore, 1) := by decide +kernel
theorem dX5_become_19 : decode cX5_become 19 = .ok (.iinc 2 1, 3) := by decide +kernel
theorem dX5_become_22 : decode cX5_become 22 = .ok (.goto (-20), 3) := by decide +kernel
theorem dX5_become_25 : decode cX5_become 25 = .ok (.iconst 0, 1) := by decide +kernel
theorem dX5_become_26 : decode cX5_become 26 = .ok (.istore_n 2, 1) := by decide +kernel
theorem dX5_become_27 : decode cX5_become 27 = .ok (.iload_n 2, 1) := by decide +kernel
theorem dX5_become_28 : decode cX5_become 28 = .ok (.bipush 6, 2) := by decide +kernel
theorem dX5_become_30 : decode cX5_become 30 = .ok (.if_icmp .ge 57, 3) := by decide +kernel
theorem dX5_become_33 : decode cX5_become 33 = .ok (.aload_n 0, 1) := by decide +kernel
theorem dX5_become_34 : decode cX5_become 34 = .ok (.getfield 15, 3) := by decide +kernel
theorem dX5_become_37 : decode cX5_become 37 = .ok (.iload_n 2, 1) := by decide +kernel
theorem dX5_become_38 : decode cX5_become 38 = .ok (.aload_n 1, 1) := by decide +kernel
theorem dX5_become_39 : decode cX5_become 39 = .ok (.getfield 15, 3) := by decide +kernel
theorem dX5_become_42 : decode cX5_become 42 = .ok (.iload_n 2, 1) := by decide +kernel
theorem dX5_become_43 : decode cX5_become 43 = .ok (.iaload, 1) := by decide +kernel
theorem dX5_become_44 : decode cX5_become 44 = .ok (.iastore, 1) := by decide +kernel
theorem dX5_become_45 : decode cX5_become 45 = .ok (.aload_n 0, 1) := by decide +kernel
theorem dX5_become_46 : decode cX5_become 46 = .ok (.getfield 18, 3) := by decide +kernel
theorem dX5_become_49 : decode cX5_become 49 = .ok (.iload_n 2, 1) := by decide +kernel
theorem dX5_become_50 : decode cX5_become 50 = .ok (.aload_n 1, 1) := by decide +kernel
theorem dX5_become_51 : decode cX5_become 51 = .ok (.getfield 18, 3) := by decide +kernel
theorem dX5_become_54 : decode cX5_become 54 = .ok (.iload_n 2, 1) := by decide +kernel
theorem dX5_become_55 : decode cX5_become 55 = .ok (.iaload, 1) := by decide +kernel
theorem dX5_become_56 : decode cX5_become 56 = .ok (.iastore, 1) := by decide +kernel
theorem dX5_become_57 : decode cX5_become 57 = .ok (.aload_n 0, 1) := by decide +kernel
theorem dX5_become_58 : decode cX5_become 58 = .ok (.getfield 21, 3) := by decide +kernel
theorem dX5_become_61 : decode cX5_become 61 = .ok (.iload_n 2, 1) := by decide +kernel
theorem dX5_become_62 : decode cX5_become 62 = .ok (.aload_n 1, 1) := by decide +kernel
theorem dX5_become_63 : decode cX5_become 63 = .ok (.getfield 21, 3) := by decide +kernel
theorem dX5_become_66 : decode cX5_become 66 = .ok (.iload_n 2, 1) := by decide +kernel
theorem dX5_become_67 : decode cX5_become 67 = .ok (.iaload, 1) := by decide +kernel
theorem dX5_become_68 : decode cX5_become 68 = .ok (.iastore, 1) := by decide +kernel
theorem dX5_become_69 : decode cX5_become 69 = .ok (.aload_n 0, 1) := by decide +kernel
theorem dX5_become_70 : decode cX5_become 70 = .ok (.getfield 24, 3) := by decide +kernel
theorem dX5_become_73 : decode cX5_become 73 = .ok (.iload_n 2, 1) := by decide +kernel
theorem dX5_become_74 : decode cX5_become 74 = .ok (.aload_n 1, 1) := by decide +kernel
theorem dX5_become_75 : decode cX5_become 75 = .ok (.getfield 24, 3) := by decide +kernel
theorem dX5_become_78 : decode cX5_become 78 = .ok (.iload_n 2, 1) := by decide +kernel
theorem dX5_become_79 : decode cX5_become 79 = .ok (.iaload, 1) := by decide +kernel
theorem dX5_become_80 : decode cX5_become 80 = .ok (.iastore, 1) := by decide +kernel
theorem dX5_become_81 : decode cX5_become 81 = .ok (.iinc 2 1, 3) := by decide +kernel
theorem dX5_become_84 : decode cX5_become 84 = .ok (.goto (-57), 3) := by decide +kernel
theorem dX5_become_87 : decode cX5_become 87 = .ok (.aload_n 0, 1) := by decide +kernel
theorem dX5_become_88 : decode cX5_become 88 = .ok (.aload_n 1, 1) := by decide +kernel
theorem dX5_become_89 : decode cX5_become 89 = .ok (.getfield 27, 3) := by decide +kernel
theorem dX5_become_92 : decode cX5_become 92 = .ok (.putfield 27, 3) := by decide +kernel
theorem dX5_become_95 : decode cX5_become 95 = .ok (.aload_n 0, 1) := by decide +kernel
theorem dX5_become_96 : decode cX5_become 96 = .ok (.aload_n 1, 1) := by decide +kernel
theorem dX5_become_97 : decode cX5_become 97 = .ok (.getfield 31, 3) := by decide +kernel
theorem dX5_become_100 : decode cX5_become 100 = .ok (.putfield 31, 3) := by decide +kernel
theorem dX5_become_103 : decode cX5_become 103 = .ok (.return_, 1) := by decide +kernel
theorem dX7_clear_0 : decode cX7_clear 0 = .ok (.aload_n 0, 1) := by decide +kernel
theorem dX7_clear_1 : decode cX7_clear 1 = .ok (.iconst 0, 1) := by decide +kernel
theorem dX7_clear_2 : decode cX7_clear 2 = .ok (.putfield 18, 3) := by decide +kernel
theorem dX7_clear_5 : decode cX7_clear 5 = .ok (.return_, 1) := by decide +kernel
theorem dX7_add_0 : decode cX7_add 0 = .ok (.aload_n 0, 1) := by decide +kernel
theorem dX7_add_1 : decode cX7_add 1 = .ok (.getfield 18, 3) := by decide +kernel
theorem dX7_add_4 : decode cX7_add 4 = .ok (.ifCond .lt 33, 3) := by decide +kernel
theorem dX7_add_7 : decode cX7_add 7 = .ok (.aload_n 0, 1) := by decide +kernel
theorem dX7_add_8 : decode cX7_add 8 = .ok (.getfield 18, 3) := by decide +kernel
theorem dX7_add_11 : decode cX7_add 11 = .ok (.sipush 160, 3) := by decide +kernel
theorem dX7_add_14 : decode cX7_add 14 = .ok (.if_icmp .ge 23, 3) := by decide +kernel
theorem dX7_add_17 : decode cX7_add 17 = .ok (.aload_n 0, 1) := by decide +kernel
theorem dX7_add_18 : decode cX7_add 18 = .ok (.getfield 9, 3) := by decide +kernel
theorem dX7_add_21 : decode cX7_add 21 = .ok (.aload_n 0, 1) := by decide +kernel
theorem dX7_add_22 : decode cX7_add 22 = .ok (.getfield 18, 3) := by decide +kernel
theorem dX7_add_25 : decode cX7_add 25 = .ok (.iload_n 1, 1) := by decide +kernel
theorem dX7_add_26 : decode cX7_add 26 = .ok (.iastore, 1) := by decide +kernel
theorem dX7_add_27 : decode cX7_add 27 = .ok (.aload_n 0, 1) := by decide +kernel
theorem dX7_add_28 : decode cX7_add 28 = .ok (.dup, 1) := by decide +kernel
theorem dX7_add_29 : decode cX7_add 29 = .ok (.getfield 18, 3) := by decide +kernel
theorem dX7_add_32 : decode cX7_add 32 = .ok (.iconst 1, 1) := by decide +kernel
theorem dX7_add_33 : decode cX7_add 33 = .ok (.iadd, 1) := by decide +kernel
theorem dX7_add_34 : decode cX7_add 34 = .ok (.putfield 18, 3) := by decide +kernel
theorem dX7_add_37 : decode cX7_add 37 = .ok (.return_, 1) := by decide +kernel
theorem dX7_endPart_0 : decode cX7_endPart 0 = .ok (.iload_n 1, 1) := by decide +kernel
theorem dX7_endPart_1 : decode cX7_endPart 1 = .ok (.ifCond .lt 20, 3) := by decide +kernel
theorem dX7_endPart_4 : decode cX7_endPart 4 = .ok (.iload_n 1, 1) := by decide +kernel
theorem dX7_endPart_5 : decode cX7_endPart 5 = .ok (.iconst 3, 1) := by decide +kernel
theorem dX7_endPart_6 : decode cX7_endPart 6 = .ok (.if_icmp .ge 15, 3) := by decide +kernel
theorem dX7_endPart_9 : decode cX7_endPart 9 = .ok (.aload_n 0, 1) := by decide +kernel
theorem dX7_endPart_10 : decode cX7_endPart 10 = .ok (.getfield 15, 3) := by decide +kernel
theorem dX7_endPart_13 : decode cX7_endPart 13 = .ok (.iload_n 1, 1) := by decide +kernel
theorem dX7_endPart_14 : decode cX7_endPart 14 = .ok (.iconst 1, 1) := by decide +kernel
theorem dX7_endPart_15 : decode cX7_endPart 15 = .ok (.iadd, 1) := by decide +kernel
theorem dX7_endPart_16 : decode cX7_endPart 16 = .ok (.aload_n 0, 1) := by decide +kernel
theorem dX7_endPart_17 : decode cX7_endPart 17 = .ok (.getfield 18, 3) := by decide +kernel
theorem dX7_endPart_20 : decode cX7_endPart 20 = .ok (.iastore, 1) := by decide +kernel
theorem dX7_endPart_21 : decode cX7_endPart 21 = .ok (.return_, 1) := by decide +kernel
theorem dX7_become_0 : decode cX7_become 0 = .ok (.iconst 0, 1) := by decide +kernel
theorem dX7_become_1 : decode cX7_become 1 = .ok (.istore_n 2, 1) := by decide +kernel
theorem dX7_become_2 : decode cX7_become 2 = .ok (.iload_n 2, 1) := by decide +kernel
theorem dX7_become_3 : decode cX7_become 3 = .ok (.sipush 160, 3) := by decide +kernel
theorem dX7_become_6 : decode cX7_become 6 = .ok (.if_icmp .ge 21, 3) := by decide +kernel
theorem dX7_become_9 : decode cX7_become 9 = .ok (.aload_n 0, 1) := by decide +kernel
theorem dX7_become_10 : decode cX7_become 10 = .ok (.getfield 9, 3) := by decide +kernel
theorem dX7_become_13 : decode cX7_become 13 = .ok (.iload_n 2, 1) := by decide +kernel
theorem dX7_become_14 : decode cX7_become 14 = .ok (.aload_n 1, 1) := by decide +kernel
theorem dX7_become_15 : decode cX7_become 15 = .ok (.getfield 9, 3) := by decide +kernel
theorem dX7_become_18 : decode cX7_become 18 = .ok (.iload_n 2, 1) := by decide +kernel
theorem dX7_become_19 : decode cX7_become 19 = .ok (.iaload, 1) := by decide +kernel
theorem dX7_become_20 : decode cX7_become 20 = .ok (.iastore, 1) := by decide +kernel
theorem dX7_become_21 : decode cX7_become 21 = .ok (.iinc 2 1, 3) := by decide +kernel
theorem dX7_become_24 : decode cX7_become 24 = .ok (.goto (-22), 3) := by decide +kernel
theorem dX7_become_27 : decode cX7_become 27 = .ok (.iconst 0, 1) := by decide +kernel
theorem dX7_become_28 : decode cX7_become 28 = .ok (.istore_n 2, 1) := by decide +kernel
theorem dX7_become_29 : decode cX7_become 29 = .ok (.iload_n 2, 1) := by decide +kernel
theorem dX7_become_30 : decode cX7_become 30 = .ok (.iconst 3, 1) := by decide +kernel
theorem dX7_become_31 : decode cX7_become 31 = .ok (.if_icmp .gt 21, 3) := by decide +kernel
theorem dX7_become_34 : decode cX7_become 34 = .ok (.aload_n 0, 1) := by decide +kernel
theorem dX7_become_35 : decode cX7_become 35 = .ok (.getfield 15, 3) := by decide +kernel
theorem dX7_become_38 : decode cX7_become 38 = .ok (.iload_n 2, 1) := by decide +kernel
theorem dX7_become_39 : decode cX7_become 39 = .ok (.aload_n 1, 1) := by decide +kernel
theorem dX7_become_40 : decode cX7_become 40 = .ok (.getfield 15, 3) := by decide +kernel
theorem dX7_become_43 : decode cX7_become 43 = .ok (.iload_n 2, 1) := by decide +kernel
theorem dX7_become_44 : decode cX7_become 44 = .ok (.iaload, 1) := by decide +kernel
theorem dX7_become_45 : decode cX7_become 45 = .ok (.iastore, 1) := by decide +kernel
theorem dX7_become_46 : decode cX7_become 46 = .ok (.iinc 2 1, 3) := by decide +kernel
theorem dX7_become_49 : decode cX7_become 49 = .ok (.goto (-20), 3) := by decide +kernel
theorem dX7_become_52 : decode cX7_become 52 = .ok (.aload_n 0, 1) := by decide +kernel
theorem dX7_become_53 : decode cX7_become 53 = .ok (.aload_n 1, 1) := by decide +kernel
theorem dX7_become_54 : decode cX7_become 54 = .ok (.getfield 18, 3) := by decide +kernel
theorem dX7_become_57 : decode cX7_become 57 = .ok (.putfield 18, 3) := by decide +kernel
theorem dX7_become_60 : decode cX7_become 60 = .ok (.return_, 1) := by decide +kernel
def f_Kind_ripens (a1 : Int32) (a2 : Int32) (a3 : Int32) (a4 : Int32) : Option Int32 :=
jp (fun (v1 : Int32) =>
if a1 = 1 then
(some (imax 1 (a4 - v1)))
else
(if a1 = 2 then
(some (imax 1 (a4 + (2 * a2))))
else
(if a1 = 3 then
(some (imax 1 ((a4 - v1) / 2)))
else
(if a1 = 4 then
(jp (fun (v3 : Int32) =>
some (imax 1 v3)) fun j4 =>
if a3 = 0 then
(j4 (a4 + (2 * a2)))
else
(j4 a4))
else
(some (imax 1 a4)))))) fun j2 =>
if a3 = 0 then
(j2 (3 * a2))
else
(j2 a2)
def f_Kind_lasts (a1 : Int32) (a2 : Int32) : Option Int32 :=
if a1 = 1 then
(some (imax 0 (10 - (a2 / 2))))
else
(if a1 = 2 then
(some 10)
else
(if a1 = 3 then
(some (imax 0 (8 - (a2 / 2))))
else
(if a1 = 4 then
(some 15)
else
(some 10))))
def f_Kind_takes (a1 : Int32) (a2 : Int32) (a3 : Int32) : Option Int32 :=
if a1 = 3 then
(some (imax 1 ((a2 * a3) + 3)))
else
(if a1 = 5 then
(some (imax 1 ((2 * a2) * a3)))
else
(some (imax 1 (a2 * a3))))
def f_Kind_isUnder (a1 : Int32) (a2 : Int32) : Option Bool :=
if a2 = 0 then
(some true)
else
(if a2 = 1 then
(if a1 = 1 then
(some true)
else
(if a1 = 3 then
(some true)
else
(some false)))
else
(if a2 = 2 then
(if a1 = 2 then
(some true)
else
(if a1 = 4 then
(some true)
else
(some false)))
else
(if a1 = a2 then
(some true)
else
(some false))))
def f_Pick_clear (M : Mem) : Option Mem :=
bnd (wr M 40 0 0) fun (M1 : Mem) =>
some M1
def f_Pick_offer (M : Mem) (a1 : Int32) (a2 : Int32) (a3 : Int32) : Option Mem :=
jp (fun (u1 : Unit) =>
bnd (wr M 40 0 1) fun (M3 : Mem) =>
bnd (wr M3 40 1 a1) fun (M4 : Mem) =>
bnd (wr M4 40 2 a2) fun (M5 : Mem) =>
bnd (wr M5 40 3 a3) fun (M6 : Mem) =>
some M6) fun j2 =>
if (M 40 0) = 0 then
(j2 ())
else
(if a2 < (M 40 2) then
(j2 ())
else
(if a2 = (M 40 2) then
(if (M 40 3) ≤ a3 then
(some M)
else
(j2 ()))
else
(some M)))
def f_Sheet_isMissing (M : Mem) (t : Nat) : Option Bool :=
if (M t 1) = (-1) then
(some true)
else
(some false)
def f_Sheet_has (M : Mem) (t : Nat) (a1 : Int32) : Option Bool :=
if a1 < 0 then
(some false)
else
(if (M t 2) ≤ a1 then
(some false)
else
(if 40 ≤ a1 then
(some false)
else
(some true)))
def f_Sheet_hasRun (M : Mem) (t : Nat) (a1 : Int32) (a2 : Int32) : Option Bool :=
if a2 < 0 then
(some false)
else
(if (M t 2) < a2 then
(some false)
else
(if a1 < 0 then
(some false)
else
(if ((M t 2) - a2) < a1 then
(some false)
else
(some true))))
def f_Sheet_become_L12 (t : Nat) (j4 : Mem → Option Mem) : Nat → Int32 → Mem → Option Mem
  | 0, _, _ => none
  | fu7 + 1, v5, M6 =>
    if 40 ≤ v5 then
    (j4 M6)
    else
    (ck v5 40 <|
    bnd (wr M6 (t + 1) v5.toNatClampNeg 0) fun (M8 : Mem) =>
    bnd (v5 + 1) fun (v9 : Int32) =>
    f_Sheet_become_L12 t j4 fu7 v9 M8)
def f_Sheet_become (M : Mem) (t : Nat) (a1 : Int32) (a2 : Int32) : Option Mem :=
bnd (wr M t 1 a1) fun (M1 : Mem) =>
bnd (wr M1 t 2 a2) fun (M2 : Mem) =>
jp (fun (M3 : Mem) =>
some M3) fun j4 =>
f_Sheet_become_L12 t j4 FU 0 M2
def f_Sheet_put (M : Mem) (t : Nat) (a1 : Int32) (a2 : Int32) : Option Mem :=
ob (f_Sheet_has M t a1) fun (v2 : Bool) =>
if v2 = true then
(jp (fun (v3 : Int32) =>
ck a1 40 <|
bnd (wr M (t + 1) a1.toNatClampNeg v3) fun (M5 : Mem) =>
some M5) fun j4 =>
if (M t 1) = 0 then
(j4 (a2.toInt8.toInt32))
else
(if (M t 1) = 1 then
(j4 (a2.toInt16.toInt32))
else
(j4 a2)))
else
(some M)
def f_Site_has (M : Mem) (t : Nat) (a1 : Int32) : Option Bool :=
if a1 < 0 then
(some false)
else
(if (M t 5) ≤ a1 then
(some false)
else
(if 6 ≤ a1 then
(some false)
else
(some true)))
def f_Site_turn (M : Mem) (t : Nat) (a1 : Int32) (a2 : Int32) : Option Mem :=
if a1 < 0 then
(some M)
else
(if 5 < a1 then
(some M)
else
(ck a1 6 <|
bnd (wr M (t + 1) a1.toNatClampNeg a2) fun (M1 : Mem) =>
some M1))
def f_Site_rowOf (t : Nat) (a1 : Int32) : Option Nat :=
if a1 = 6 then
(some (t + 3))
else
(if a1 = 7 then
(some (t + 4))
else
(if a1 = 8 then
(some (t + 5))
else
(some (t + 1))))
theorem rowOf_lay {t r : Nat} {a : Int32} (ht : isSite t) (h : f_Site_rowOf t a = some r) : layX[r]? = some (.inr (0, 6, fun _ => 0)) := by
  unfold f_Site_rowOf at h
  split at h
  · rw [← oi h]; exact lxSite3 ht
  · split at h
    · rw [← oi h]; exact lxSite4 ht
    · split at h
      · rw [← oi h]; exact lxSite5 ht
      · rw [← oi h]; exact lxSite1 ht
def f_Site_add (M : Mem) (t : Nat) (a1 : Int32) (a2 : Int32) (a3 : Int32) : Option (Mem × Int32) :=
if (M t 5) < 0 then
(some (M, (-4)))
else
(if (M t 5) < 6 then
(ck (M t 5) 6 <|
bnd (wr M (t + 2) (M t 5).toNatClampNeg a1) fun (M1 : Mem) =>
ck (M1 t 5) 6 <|
bnd (wr M1 (t + 3) (M1 t 5).toNatClampNeg a2) fun (M2 : Mem) =>
ck (M2 t 5) 6 <|
bnd (wr M2 (t + 4) (M2 t 5).toNatClampNeg a3) fun (M3 : Mem) =>
ck (M3 t 5) 6 <|
bnd (wr M3 (t + 5) (M3 t 5).toNatClampNeg 0) fun (M4 : Mem) =>
bnd (wr M4 t 5 ((M4 t 5) + 1)) fun (M5 : Mem) =>
some (M5, ((M5 t 5) - 1)))
else
(some (M, (-4))))
def f_Site_wetJust_L2 (t : Nat) (a1 : Int32) (j2 : Mem → Option Mem) : Nat → Int32 → Mem → Option Mem
  | 0, _, _ => none
  | fu5 + 1, v3, M4 =>
    if 6 ≤ v3 then
    (j2 M4)
    else
    (ck v3 6 <|
    bnd (wr M4 (t + 5) v3.toNatClampNeg ((a1 >>> (v3 &&& 31)) &&& 1)) fun (M6 : Mem) =>
    bnd (v3 + 1) fun (v7 : Int32) =>
    f_Site_wetJust_L2 t a1 j2 fu5 v7 M6)
def f_Site_wetJust (M : Mem) (t : Nat) (a1 : Int32) : Option Mem :=
jp (fun (M1 : Mem) =>
some M1) fun j2 =>
f_Site_wetJust_L2 t a1 j2 FU 0 M
def f_Site_become_L27 (t : Nat) (t1 : Nat) (j4 : Mem → Option Mem) : Nat → Int32 → Mem → Option Mem
  | 0, _, _ => none
  | fu9 + 1, v7, M8 =>
    if 6 ≤ v7 then
    (j4 M8)
    else
    (ck v7 6 <|
    ck v7 6 <|
    bnd (wr M8 (t + 2) v7.toNatClampNeg (M8 (t1 + 2) v7.toNatClampNeg)) fun (M10 : Mem) =>
    ck v7 6 <|
    ck v7 6 <|
    bnd (wr M10 (t + 3) v7.toNatClampNeg (M10 (t1 + 3) v7.toNatClampNeg)) fun (M11 : Mem) =>
    ck v7 6 <|
    ck v7 6 <|
    bnd (wr M11 (t + 4) v7.toNatClampNeg (M11 (t1 + 4) v7.toNatClampNeg)) fun (M12 : Mem) =>
    ck v7 6 <|
    ck v7 6 <|
    bnd (wr M12 (t + 5) v7.toNatClampNeg (M12 (t1 + 5) v7.toNatClampNeg)) fun (M13 : Mem) =>
    bnd (v7 + 1) fun (v14 : Int32) =>
    f_Site_become_L27 t t1 j4 fu9 v14 M13)
def f_Site_become_L2 (t : Nat) (t1 : Nat) (j2 : Mem → Option Mem) : Nat → Int32 → Mem → Option Mem
  | 0, _, _ => none
  | fu17 + 1, v15, M16 =>
    if 5 < v15 then
    (j2 M16)
    else
    (ck v15 6 <|
    ck v15 6 <|
    bnd (wr M16 (t + 1) v15.toNatClampNeg (M16 (t1 + 1) v15.toNatClampNeg)) fun (M18 : Mem) =>
    bnd (v15 + 1) fun (v19 : Int32) =>
    f_Site_become_L2 t t1 j2 fu17 v19 M18)
def f_Site_become (M : Mem) (t : Nat) (t1 : Nat) : Option Mem :=
jp (fun (M1 : Mem) =>
jp (fun (M3 : Mem) =>
bnd (wr M3 t 5 (M3 t1 5)) fun (M5 : Mem) =>
bnd (wr M5 t 6 (M5 t1 6)) fun (M6 : Mem) =>
some M6) fun j4 =>
f_Site_become_L27 t t1 j4 FU 0 M1) fun j2 =>
f_Site_become_L2 t t1 j2 FU 0 M
def f_Text_clear (M : Mem) (t : Nat) : Option Mem :=
bnd (wr M t 2 0) fun (M1 : Mem) =>
some M1
def f_Text_add (M : Mem) (t : Nat) (a1 : Int32) : Option Mem :=
if (M t 2) < 0 then
(some M)
else
(if 160 ≤ (M t 2) then
(some M)
else
(ck (M t 2) 160 <|
bnd (wr M (t + 1) (M t 2).toNatClampNeg a1) fun (M1 : Mem) =>
bnd (wr M1 t 2 ((M1 t 2) + 1)) fun (M2 : Mem) =>
some M2))
def f_Text_endPart (M : Mem) (t : Nat) (a1 : Int32) : Option Mem :=
if a1 < 0 then
(some M)
else
(if 3 ≤ a1 then
(some M)
else
(ck (a1 + 1) 4 <|
bnd (wr M (t + 2) (a1 + 1).toNatClampNeg (M t 2)) fun (M1 : Mem) =>
some M1))
def f_Text_become_L29 (t : Nat) (t1 : Nat) (j4 : Mem → Option Mem) : Nat → Int32 → Mem → Option Mem
  | 0, _, _ => none
  | fu8 + 1, v6, M7 =>
    if 3 < v6 then
    (j4 M7)
    else
    (ck v6 4 <|
    ck v6 4 <|
    bnd (wr M7 (t + 2) v6.toNatClampNeg (M7 (t1 + 2) v6.toNatClampNeg)) fun (M9 : Mem) =>
    bnd (v6 + 1) fun (v10 : Int32) =>
    f_Text_become_L29 t t1 j4 fu8 v10 M9)
def f_Text_become_L2 (t : Nat) (t1 : Nat) (j2 : Mem → Option Mem) : Nat → Int32 → Mem → Option Mem
  | 0, _, _ => none
  | fu13 + 1, v11, M12 =>
    if 160 ≤ v11 then
    (j2 M12)
    else
    (ck v11 160 <|
    ck v11 160 <|
    bnd (wr M12 (t + 1) v11.toNatClampNeg (M12 (t1 + 1) v11.toNatClampNeg)) fun (M14 : Mem) =>
    bnd (v11 + 1) fun (v15 : Int32) =>
    f_Text_become_L2 t t1 j2 fu13 v15 M14)
def f_Text_become (M : Mem) (t : Nat) (t1 : Nat) : Option Mem :=
jp (fun (M1 : Mem) =>
jp (fun (M3 : Mem) =>
bnd (wr M3 t 2 (M3 t1 2)) fun (M5 : Mem) =>
some M5) fun j4 =>
f_Text_become_L29 t t1 j4 FU 0 M1) fun j2 =>
f_Text_become_L2 t t1 j2 FU 0 M
set_option maxHeartbeats 4000000 in
set_option maxRecDepth 20000 in
theorem w_f_Kind_ripens {X : XT} {M : Mem} {a1 : Int32} {a2 : Int32} {a3 : Int32} {a4 : Int32} {r : Int32}   (h : f_Kind_ripens a1 a2 a3 a4 = some r) : CT layX X 1 yX1_ripens cX1_ripens 5 (some .int) [.int a1, .int a2, .int a3, .int a4] M M (some (.int r)) := by
  refine CT.of rfl (Nat.le_of_ble_eq_true rfl) (lv := [(0, .int a1), (1, .int a2), (2, .int a3), (3, .int a4)]) rfl (fun Γ K => ?_)
  have K : Kx layX X Γ RX1 cX1_ripens 5 1 (some .int) := K
  unfold f_Kind_ripens at h
  refine g_iload_n (pn := 1) K rfl 2 rfl dX1_ripens_0 ?_
  refine jp_e1 h (fun v1 => G layX X Γ 5 (QM layX X Γ (some (.int r)) M) 11 [(0, .int a1), (1, .int a2), (2, .int a3), (3, .int a4)] [.int v1] M) (fun v1 h => ?_) (fun j2 hj2 h => ?_)
  · refine g_istore (pn := 13) (lv' := [(4, .int v1), (0, .int a1), (1, .int a2), (2, .int a3), (3, .int a4)]) K rfl dX1_ripens_11 (Nat.le_of_ble_eq_true rfl) rfl ?_
    refine g_iload_n (pn := 14) K rfl 1 rfl dX1_ripens_13 ?_
    rcases Decidable.em (a1 = 1) with hs | hs0
    · replace h := (ite_e h).1 hs
      refine g_tsw (tgt := 44) (v := 1) (off := 30) K hs (by decide) (by decide) (by decide) (by decide) dX1_ripens_14 ?_
      refine g_iconst (pn := 45) (v := 1) K rfl ic_1 dX1_ripens_44 ?_
      refine g_iload_n (pn := 46) K rfl 4 rfl dX1_ripens_45 ?_
      refine g_iload (pn := 48) K rfl 0 rfl dX1_ripens_46 ?_
      refine g_isub (pn := 49) K rfl dX1_ripens_48 ?_
      refine g_mmax (pn := 52) K rfl (by decide) mm_X1_9 mm_max_s mm_i mm_max_c (Nat.le_of_ble_eq_true rfl) dX1_ripens_49 ?_
      exact g_iret K dX1_ripens_52 (oi h) rfl
    · replace h := (ite_e h).2 hs0
      rcases Decidable.em (a1 = 2) with hs | hs1
      · replace h := (ite_e h).1 hs
        refine g_tsw (tgt := 53) (v := 2) (off := 39) K hs (by decide) (by decide) (by decide) (by decide) dX1_ripens_14 ?_
        refine g_iconst (pn := 54) (v := 1) K rfl ic_1 dX1_ripens_53 ?_
        refine g_iload_n (pn := 55) K rfl 4 rfl dX1_ripens_54 ?_
        refine g_iconst (pn := 56) (v := 2) K rfl ic_2 dX1_ripens_55 ?_
        refine g_iload_n (pn := 57) K rfl 2 rfl dX1_ripens_56 ?_
        refine g_imul (pn := 58) K rfl dX1_ripens_57 ?_
        refine g_iadd (pn := 59) K rfl dX1_ripens_58 ?_
        refine g_mmax (pn := 62) K rfl (by decide) mm_X1_9 mm_max_s mm_i mm_max_c (Nat.le_of_ble_eq_true rfl) dX1_ripens_59 ?_
        exact g_iret K dX1_ripens_62 (oi h) rfl
      · replace h := (ite_e h).2 hs1
        rcases Decidable.em (a1 = 3) with hs | hs2
        · replace h := (ite_e h).1 hs
          refine g_tsw (tgt := 63) (v := 3) (off := 49) K hs (by decide) (by decide) (by decide) (by decide) dX1_ripens_14 ?_
          refine g_iconst (pn := 64) (v := 1) K rfl ic_1 dX1_ripens_63 ?_
          refine g_iload_n (pn := 65) K rfl 4 rfl dX1_ripens_64 ?_
          refine g_iload (pn := 67) K rfl 0 rfl dX1_ripens_65 ?_
          refine g_isub (pn := 68) K rfl dX1_ripens_67 ?_
          refine g_iconst (pn := 69) (v := 2) K rfl ic_2 dX1_ripens_68 ?_
          refine g_idiv (pn := 70) K rfl (by decide) dX1_ripens_69 ?_
          refine g_mmax (pn := 73) K rfl (by decide) mm_X1_9 mm_max_s mm_i mm_max_c (Nat.le_of_ble_eq_true rfl) dX1_ripens_70 ?_
          exact g_iret K dX1_ripens_73 (oi h) rfl
        · replace h := (ite_e h).2 hs2
          rcases Decidable.em (a1 = 4) with hs | hs3
          · replace h := (ite_e h).1 hs
            refine g_tsw (tgt := 74) (v := 4) (off := 60) K hs (by decide) (by decide) (by decide) (by decide) dX1_ripens_14 ?_
            refine g_iconst (pn := 75) (v := 1) K rfl ic_1 dX1_ripens_74 ?_
            refine g_iload_n (pn := 76) K rfl 3 rfl dX1_ripens_75 ?_
            refine jp_e1 h (fun v3 => G layX X Γ 5 (QM layX X Γ (some (.int r)) M) 88 [] [.int v3, .int 1] M) (fun v3 h => ?_) (fun j4 hj4 h => ?_)
            · refine g_mmax (pn := 91) K rfl (by decide) mm_X1_9 mm_max_s mm_i mm_max_c (Nat.le_of_ble_eq_true rfl) dX1_ripens_88 ?_
              exact g_iret K dX1_ripens_91 (oi h) rfl
            refine g_if_eq (tgt := 83) (pn := 79) K rfl (by decide) dX1_ripens_76 h (fun h => ?_) (fun h => ?_)
            · refine g_iload_n (pn := 84) K rfl 4 rfl dX1_ripens_83 ?_
              refine g_iconst (pn := 85) (v := 2) K rfl ic_2 dX1_ripens_84 ?_
              refine g_iload_n (pn := 86) K rfl 2 rfl dX1_ripens_85 ?_
              refine g_imul (pn := 87) K rfl dX1_ripens_86 ?_
              refine g_iadd (pn := 88) K rfl dX1_ripens_87 ?_
              refine g_sub [] rfl ?_
              exact hj4 _ h
            · refine g_iload_n (pn := 80) K rfl 4 rfl dX1_ripens_79 ?_
              refine g_goto (tgt := 88) K (by decide) dX1_ripens_80 ?_
              refine g_sub [] rfl ?_
              exact hj4 _ h
          · replace h := (ite_e h).2 hs3
            refine g_tswD (tgt := 92) K [1, 2, 3, 4] (by decide) (by decide) (by simp only [List.forall_mem_cons]; exact ⟨hs0, hs1, hs2, hs3, fun _ h => absurd h List.not_mem_nil⟩) (by decide) dX1_ripens_14 ?_
            refine g_iconst (pn := 93) (v := 1) K rfl ic_1 dX1_ripens_92 ?_
            refine g_iload_n (pn := 94) K rfl 4 rfl dX1_ripens_93 ?_
            refine g_mmax (pn := 97) K rfl (by decide) mm_X1_9 mm_max_s mm_i mm_max_c (Nat.le_of_ble_eq_true rfl) dX1_ripens_94 ?_
            exact g_iret K dX1_ripens_97 (oi h) rfl
  refine g_if_eq (tgt := 8) (pn := 4) K rfl (by decide) dX1_ripens_1 h (fun h => ?_) (fun h => ?_)
  · refine g_iconst (pn := 9) (v := 3) K rfl ic_3 dX1_ripens_8 ?_
    refine g_iload_n (pn := 10) K rfl 1 rfl dX1_ripens_9 ?_
    refine g_imul (pn := 11) K rfl dX1_ripens_10 ?_
    exact hj2 _ h
  · refine g_iload_n (pn := 5) K rfl 1 rfl dX1_ripens_4 ?_
    refine g_goto (tgt := 11) K (by decide) dX1_ripens_5 ?_
    exact hj2 _ h
set_option maxHeartbeats 4000000 in
set_option maxRecDepth 20000 in
theorem w_f_Kind_lasts {X : XT} {M : Mem} {a1 : Int32} {a2 : Int32} {r : Int32}   (h : f_Kind_lasts a1 a2 = some r) : CT layX X 1 yX1_lasts cX1_lasts 2 (some .int) [.int a1, .int a2] M M (some (.int r)) := by
  refine CT.of rfl (Nat.le_of_ble_eq_true rfl) (lv := [(0, .int a1), (1, .int a2)]) rfl (fun Γ K => ?_)
  have K : Kx layX X Γ RX1 cX1_lasts 2 1 (some .int) := K
  unfold f_Kind_lasts at h
  refine g_iload_n (pn := 1) K rfl 0 rfl dX1_lasts_0 ?_
  rcases Decidable.em (a1 = 1) with hs | hs0
  · replace h := (ite_e h).1 hs
    refine g_tsw (tgt := 32) (v := 1) (off := 31) K hs (by decide) (by decide) (by decide) (by decide) dX1_lasts_1 ?_
    refine g_iconst (pn := 33) (v := 0) K rfl ic_0 dX1_lasts_32 ?_
    refine g_bipush (pn := 35) (v := 10) K rfl bp_10 dX1_lasts_33 ?_
    refine g_iload_n (pn := 36) K rfl 1 rfl dX1_lasts_35 ?_
    refine g_iconst (pn := 37) (v := 2) K rfl ic_2 dX1_lasts_36 ?_
    refine g_idiv (pn := 38) K rfl (by decide) dX1_lasts_37 ?_
    refine g_isub (pn := 39) K rfl dX1_lasts_38 ?_
    refine g_mmax (pn := 42) K rfl (by decide) mm_X1_9 mm_max_s mm_i mm_max_c (Nat.le_of_ble_eq_true rfl) dX1_lasts_39 ?_
    exact g_iret K dX1_lasts_42 (oi h) rfl
  · replace h := (ite_e h).2 hs0
    rcases Decidable.em (a1 = 2) with hs | hs1
    · replace h := (ite_e h).1 hs
      refine g_tsw (tgt := 57) (v := 2) (off := 56) K hs (by decide) (by decide) (by decide) (by decide) dX1_lasts_1 ?_
      refine g_bipush (pn := 59) (v := 10) K rfl bp_10 dX1_lasts_57 ?_
      exact g_iret K dX1_lasts_59 (oi h) rfl
    · replace h := (ite_e h).2 hs1
      rcases Decidable.em (a1 = 3) with hs | hs2
      · replace h := (ite_e h).1 hs
        refine g_tsw (tgt := 43) (v := 3) (off := 42) K hs (by decide) (by decide) (by decide) (by decide) dX1_lasts_1 ?_
        refine g_iconst (pn := 44) (v := 0) K rfl ic_0 dX1_lasts_43 ?_
        refine g_bipush (pn := 46) (v := 8) K rfl bp_8 dX1_lasts_44 ?_
        refine g_iload_n (pn := 47) K rfl 1 rfl dX1_lasts_46 ?_
        refine g_iconst (pn := 48) (v := 2) K rfl ic_2 dX1_lasts_47 ?_
        refine g_idiv (pn := 49) K rfl (by decide) dX1_lasts_48 ?_
        refine g_isub (pn := 50) K rfl dX1_lasts_49 ?_
        refine g_mmax (pn := 53) K rfl (by decide) mm_X1_9 mm_max_s mm_i mm_max_c (Nat.le_of_ble_eq_true rfl) dX1_lasts_50 ?_
        exact g_iret K dX1_lasts_53 (oi h) rfl
      · replace h := (ite_e h).2 hs2
        rcases Decidable.em (a1 = 4) with hs | hs3
        · replace h := (ite_e h).1 hs
          refine g_tsw (tgt := 54) (v := 4) (off := 53) K hs (by decide) (by decide) (by decide) (by decide) dX1_lasts_1 ?_
          refine g_bipush (pn := 56) (v := 15) K rfl bp_15 dX1_lasts_54 ?_
          exact g_iret K dX1_lasts_56 (oi h) rfl
        · replace h := (ite_e h).2 hs3
          refine g_tswD (tgt := 57) K [1, 2, 3, 4] (by decide) (by decide) (by simp only [List.forall_mem_cons]; exact ⟨hs0, hs1, hs2, hs3, fun _ h => absurd h List.not_mem_nil⟩) (by decide) dX1_lasts_1 ?_
          refine g_bipush (pn := 59) (v := 10) K rfl bp_10 dX1_lasts_57 ?_
          exact g_iret K dX1_lasts_59 (oi h) rfl
set_option maxHeartbeats 4000000 in
set_option maxRecDepth 20000 in
theorem w_f_Kind_takes {X : XT} {M : Mem} {a1 : Int32} {a2 : Int32} {a3 : Int32} {r : Int32}   (h : f_Kind_takes a1 a2 a3 = some r) : CT layX X 1 yX1_takes cX1_takes 3 (some .int) [.int a1, .int a2, .int a3] M M (some (.int r)) := by
  refine CT.of rfl (Nat.le_of_ble_eq_true rfl) (lv := [(0, .int a1), (1, .int a2), (2, .int a3)]) rfl (fun Γ K => ?_)
  have K : Kx layX X Γ RX1 cX1_takes 3 1 (some .int) := K
  unfold f_Kind_takes at h
  refine g_iload_n (pn := 1) K rfl 0 rfl dX1_takes_0 ?_
  rcases Decidable.em (a1 = 3) with hs | hs0
  · replace h := (ite_e h).1 hs
    refine g_lsw (tgt := 28) (off := 27) K (lsw_t hs (by decide)) (by decide) (by decide) dX1_takes_1 ?_
    refine g_iconst (pn := 29) (v := 1) K rfl ic_1 dX1_takes_28 ?_
    refine g_iload_n (pn := 30) K rfl 1 rfl dX1_takes_29 ?_
    refine g_iload_n (pn := 31) K rfl 2 rfl dX1_takes_30 ?_
    refine g_imul (pn := 32) K rfl dX1_takes_31 ?_
    refine g_iconst (pn := 33) (v := 3) K rfl ic_3 dX1_takes_32 ?_
    refine g_iadd (pn := 34) K rfl dX1_takes_33 ?_
    refine g_mmax (pn := 37) K rfl (by decide) mm_X1_9 mm_max_s mm_i mm_max_c (Nat.le_of_ble_eq_true rfl) dX1_takes_34 ?_
    exact g_iret K dX1_takes_37 (oi h) rfl
  · replace h := (ite_e h).2 hs0
    rcases Decidable.em (a1 = 5) with hs | hs1
    · replace h := (ite_e h).1 hs
      refine g_lsw (tgt := 38) (off := 37) K (lsw_f hs0 (by decide) (lsw_t hs (by decide))) (by decide) (by decide) dX1_takes_1 ?_
      refine g_iconst (pn := 39) (v := 1) K rfl ic_1 dX1_takes_38 ?_
      refine g_iconst (pn := 40) (v := 2) K rfl ic_2 dX1_takes_39 ?_
      refine g_iload_n (pn := 41) K rfl 1 rfl dX1_takes_40 ?_
      refine g_imul (pn := 42) K rfl dX1_takes_41 ?_
      refine g_iload_n (pn := 43) K rfl 2 rfl dX1_takes_42 ?_
      refine g_imul (pn := 44) K rfl dX1_takes_43 ?_
      refine g_mmax (pn := 47) K rfl (by decide) mm_X1_9 mm_max_s mm_i mm_max_c (Nat.le_of_ble_eq_true rfl) dX1_takes_44 ?_
      exact g_iret K dX1_takes_47 (oi h) rfl
    · replace h := (ite_e h).2 hs1
      refine g_lsw (tgt := 48) K (lsw_f hs0 (by decide) (lsw_f hs1 (by decide) (lsw_0 _ _))) (by decide) (by decide) dX1_takes_1 ?_
      refine g_iconst (pn := 49) (v := 1) K rfl ic_1 dX1_takes_48 ?_
      refine g_iload_n (pn := 50) K rfl 1 rfl dX1_takes_49 ?_
      refine g_iload_n (pn := 51) K rfl 2 rfl dX1_takes_50 ?_
      refine g_imul (pn := 52) K rfl dX1_takes_51 ?_
      refine g_mmax (pn := 55) K rfl (by decide) mm_X1_9 mm_max_s mm_i mm_max_c (Nat.le_of_ble_eq_true rfl) dX1_takes_52 ?_
      exact g_iret K dX1_takes_55 (oi h) rfl
set_option maxHeartbeats 4000000 in
set_option maxRecDepth 20000 in
theorem w_f_Kind_isUnder {X : XT} {M : Mem} {a1 : Int32} {a2 : Int32} {r : Bool}   (h : f_Kind_isUnder a1 a2 = some r) : CT layX X 0 yX1_isUnder cX1_isUnder 2 (some .boolean) [.int a1, .int a2] M M (some (.int (b2i r))) := by
  refine CT.of rfl (Nat.le_of_ble_eq_true rfl) (lv := [(0, .int a1), (1, .int a2)]) rfl (fun Γ K => ?_)
  have K : Kx layX X Γ RX1 cX1_isUnder 2 0 (some .boolean) := K
  unfold f_Kind_isUnder at h
  refine g_iload_n (pn := 1) K rfl 1 rfl dX1_isUnder_0 ?_
  rcases Decidable.em (a2 = 0) with hs | hs0
  · replace h := (ite_e h).1 hs
    refine g_tsw (tgt := 28) (v := 0) (off := 27) K hs (by decide) (by decide) (by decide) (by decide) dX1_isUnder_1 ?_
    refine g_iconst (pn := 29) (v := 1) K rfl ic_1 dX1_isUnder_28 ?_
    exact g_zret K rfl dX1_isUnder_29 (bq1 (oi h)) rfl
  · replace h := (ite_e h).2 hs0
    rcases Decidable.em (a2 = 1) with hs | hs1
    · replace h := (ite_e h).1 hs
      refine g_tsw (tgt := 30) (v := 1) (off := 29) K hs (by decide) (by decide) (by decide) (by decide) dX1_isUnder_1 ?_
      refine g_iload_n (pn := 31) K rfl 0 rfl dX1_isUnder_30 ?_
      refine g_iconst (pn := 32) (v := 1) K rfl ic_1 dX1_isUnder_31 ?_
      refine g_icmp_eq (tgt := 40) (pn := 35) K rfl (by decide) dX1_isUnder_32 h (fun h => ?_) (fun h => ?_)
      · refine g_iconst (pn := 41) (v := 1) K rfl ic_1 dX1_isUnder_40 ?_
        refine g_goto (tgt := 45) K (by decide) dX1_isUnder_41 ?_
        exact g_zret K rfl dX1_isUnder_45 (bq1 (oi h)) rfl
      · refine g_iload_n (pn := 36) K rfl 0 rfl dX1_isUnder_35 ?_
        refine g_iconst (pn := 37) (v := 3) K rfl ic_3 dX1_isUnder_36 ?_
        refine g_icmp_ne (tgt := 44) (pn := 40) K rfl (by decide) dX1_isUnder_37 h (fun h => ?_) (fun h => ?_)
        · refine g_iconst (pn := 45) (v := 0) K rfl ic_0 dX1_isUnder_44 ?_
          exact g_zret K rfl dX1_isUnder_45 (bq0 (oi h)) rfl
        · refine g_iconst (pn := 41) (v := 1) K rfl ic_1 dX1_isUnder_40 ?_
          refine g_goto (tgt := 45) K (by decide) dX1_isUnder_41 ?_
          exact g_zret K rfl dX1_isUnder_45 (bq1 (oi h)) rfl
    · replace h := (ite_e h).2 hs1
      rcases Decidable.em (a2 = 2) with hs | hs2
      · replace h := (ite_e h).1 hs
        refine g_tsw (tgt := 46) (v := 2) (off := 45) K hs (by decide) (by decide) (by decide) (by decide) dX1_isUnder_1 ?_
        refine g_iload_n (pn := 47) K rfl 0 rfl dX1_isUnder_46 ?_
        refine g_iconst (pn := 48) (v := 2) K rfl ic_2 dX1_isUnder_47 ?_
        refine g_icmp_eq (tgt := 56) (pn := 51) K rfl (by decide) dX1_isUnder_48 h (fun h => ?_) (fun h => ?_)
        · refine g_iconst (pn := 57) (v := 1) K rfl ic_1 dX1_isUnder_56 ?_
          refine g_goto (tgt := 61) K (by decide) dX1_isUnder_57 ?_
          exact g_zret K rfl dX1_isUnder_61 (bq1 (oi h)) rfl
        · refine g_iload_n (pn := 52) K rfl 0 rfl dX1_isUnder_51 ?_
          refine g_iconst (pn := 53) (v := 4) K rfl ic_4 dX1_isUnder_52 ?_
          refine g_icmp_ne (tgt := 60) (pn := 56) K rfl (by decide) dX1_isUnder_53 h (fun h => ?_) (fun h => ?_)
          · refine g_iconst (pn := 61) (v := 0) K rfl ic_0 dX1_isUnder_60 ?_
            exact g_zret K rfl dX1_isUnder_61 (bq0 (oi h)) rfl
          · refine g_iconst (pn := 57) (v := 1) K rfl ic_1 dX1_isUnder_56 ?_
            refine g_goto (tgt := 61) K (by decide) dX1_isUnder_57 ?_
            exact g_zret K rfl dX1_isUnder_61 (bq1 (oi h)) rfl
      · replace h := (ite_e h).2 hs2
        refine g_tswD (tgt := 62) K [0, 1, 2] (by decide) (by decide) (by simp only [List.forall_mem_cons]; exact ⟨hs0, hs1, hs2, fun _ h => absurd h List.not_mem_nil⟩) (by decide) dX1_isUnder_1 ?_
        refine g_iload_n (pn := 63) K rfl 0 rfl dX1_isUnder_62 ?_
        refine g_iload_n (pn := 64) K rfl 1 rfl dX1_isUnder_63 ?_
        refine g_icmp_ne (tgt := 71) (pn := 67) K rfl (by decide) dX1_isUnder_64 h (fun h => ?_) (fun h => ?_)
        · refine g_iconst (pn := 72) (v := 0) K rfl ic_0 dX1_isUnder_71 ?_
          exact g_zret K rfl dX1_isUnder_72 (bq0 (oi h)) rfl
        · refine g_iconst (pn := 68) (v := 1) K rfl ic_1 dX1_isUnder_67 ?_
          refine g_goto (tgt := 72) K (by decide) dX1_isUnder_68 ?_
          exact g_zret K rfl dX1_isUnder_72 (bq1 (oi h)) rfl
set_option maxHeartbeats 4000000 in
set_option maxRecDepth 20000 in
theorem w_f_Pick_clear {X : XT} {M : Mem}  {M' : Mem}   (h : f_Pick_clear M = some M') : CT layX X 0 yX2_clear cX2_clear 1 none [.ref (X.2.2.2.1 40)] M M' none := by
  refine CT.of rfl (Nat.le_of_ble_eq_true rfl) (lv := [(0, .ref (X.2.2.2.1 40))]) rfl (fun Γ K => ?_)
  have K : Kx layX X Γ RX2 cX2_clear 1 0 none := K
  unfold f_Pick_clear at h
  refine g_aload_n (pn := 1) K rfl 0 rfl dX2_clear_0 ?_
  refine g_iconst (pn := 2) (v := 0) K rfl ic_0 dX2_clear_1 ?_
  refine g_putz (pn := 5) K rfl fp_X2_7 lx_40 rfl rfl rfl dX2_clear_2 h (fun M1 h => ?_)
  exact g_vret K dX2_clear_5 (oi h)
set_option maxHeartbeats 4000000 in
set_option maxRecDepth 20000 in
theorem w_f_Pick_offer {X : XT} {M : Mem} {a1 : Int32} {a2 : Int32} {a3 : Int32} {M' : Mem}   (h : f_Pick_offer M a1 a2 a3 = some M') : CT layX X 0 yX2_offer cX2_offer 4 none [.ref (X.2.2.2.1 40), .int a1, .int a2, .int a3] M M' none := by
  refine CT.of rfl (Nat.le_of_ble_eq_true rfl) (lv := [(0, .ref (X.2.2.2.1 40)), (1, .int a1), (2, .int a2), (3, .int a3)]) rfl (fun Γ K => ?_)
  have K : Kx layX X Γ RX2 cX2_offer 4 0 none := K
  unfold f_Pick_offer at h
  refine g_aload_n (pn := 1) K rfl 0 rfl dX2_offer_0 ?_
  refine g_geti (pn := 4) K rfl fl_X2_7 lx_40 rfl dX2_offer_1 ?_
  refine jp_e1 h (fun u1 => G layX X Γ 4 (QM layX X Γ none M') 31 [(0, .ref (X.2.2.2.1 40)), (1, .int a1), (2, .int a2), (3, .int a3)] [] M) (fun u1 h => ?_) (fun j2 hj2 h => ?_)
  · refine g_aload_n (pn := 32) K rfl 0 rfl dX2_offer_31 ?_
    refine g_iconst (pn := 33) (v := 1) K rfl ic_1 dX2_offer_32 ?_
    refine g_putz (pn := 36) K rfl fp_X2_7 lx_40 rfl rfl rfl dX2_offer_33 h (fun M3 h => ?_)
    refine g_aload_n (pn := 37) K rfl 0 rfl dX2_offer_36 ?_
    refine g_iload_n (pn := 38) K rfl 1 rfl dX2_offer_37 ?_
    refine g_puti (pn := 41) K rfl fp_X2_20 lx_40 rfl dX2_offer_38 h (fun M4 h => ?_)
    refine g_aload_n (pn := 42) K rfl 0 rfl dX2_offer_41 ?_
    refine g_iload_n (pn := 43) K rfl 2 rfl dX2_offer_42 ?_
    refine g_puti (pn := 46) K rfl fp_X2_13 lx_40 rfl dX2_offer_43 h (fun M5 h => ?_)
    refine g_aload_n (pn := 47) K rfl 0 rfl dX2_offer_46 ?_
    refine g_iload_n (pn := 48) K rfl 3 rfl dX2_offer_47 ?_
    refine g_puti (pn := 51) K rfl fp_X2_17 lx_40 rfl dX2_offer_48 h (fun M6 h => ?_)
    exact g_vret K dX2_offer_51 (oi h)
  refine g_if_eq (tgt := 31) (pn := 7) K rfl (by decide) dX2_offer_4 h (fun h => ?_) (fun h => ?_)
  · exact hj2 _ h
  · refine g_iload_n (pn := 8) K rfl 2 rfl dX2_offer_7 ?_
    refine g_aload_n (pn := 9) K rfl 0 rfl dX2_offer_8 ?_
    refine g_geti (pn := 12) K rfl fl_X2_13 lx_40 rfl dX2_offer_9 ?_
    refine g_icmp_lt (tgt := 31) (pn := 15) K rfl (by decide) dX2_offer_12 h (fun h => ?_) (fun h => ?_)
    · exact hj2 _ h
    · refine g_iload_n (pn := 16) K rfl 2 rfl dX2_offer_15 ?_
      refine g_aload_n (pn := 17) K rfl 0 rfl dX2_offer_16 ?_
      refine g_geti (pn := 20) K rfl fl_X2_13 lx_40 rfl dX2_offer_17 ?_
      refine g_icmp_ne (tgt := 51) (pn := 23) K rfl (by decide) dX2_offer_20 h (fun h => ?_) (fun h => ?_)
      · exact g_vret K dX2_offer_51 (oi h)
      · refine g_iload_n (pn := 24) K rfl 3 rfl dX2_offer_23 ?_
        refine g_aload_n (pn := 25) K rfl 0 rfl dX2_offer_24 ?_
        refine g_geti (pn := 28) K rfl fl_X2_17 lx_40 rfl dX2_offer_25 ?_
        refine g_icmp_ge (tgt := 51) (pn := 31) K rfl (by decide) dX2_offer_28 h (fun h => ?_) (fun h => ?_)
        · exact g_vret K dX2_offer_51 (oi h)
        · exact hj2 _ h
set_option maxHeartbeats 4000000 in
set_option maxRecDepth 20000 in
theorem w_f_Sheet_isMissing {X : XT} {M : Mem} {t : Nat} {r : Bool} (ht : isSheet t)  (h : f_Sheet_isMissing M t = some r) : CT layX X 0 yX4_isMissing cX4_isMissing 1 (some .boolean) [.ref (X.2.2.2.1 t)] M M (some (.int (b2i r))) := by
  refine CT.of rfl (Nat.le_of_ble_eq_true rfl) (lv := [(0, .ref (X.2.2.2.1 t))]) rfl (fun Γ K => ?_)
  have K : Kx layX X Γ RX4 cX4_isMissing 1 0 (some .boolean) := K
  unfold f_Sheet_isMissing at h
  refine g_aload_n (pn := 1) K rfl 0 rfl dX4_isMissing_0 ?_
  refine g_geti (pn := 4) K rfl fl_X4_15 (lxSheet ht) rfl dX4_isMissing_1 ?_
  refine g_iconst (pn := 5) (v := (-1)) K rfl ic_m1 dX4_isMissing_4 ?_
  refine g_icmp_ne (tgt := 12) (pn := 8) K rfl (by decide) dX4_isMissing_5 h (fun h => ?_) (fun h => ?_)
  · refine g_iconst (pn := 13) (v := 0) K rfl ic_0 dX4_isMissing_12 ?_
    exact g_zret K rfl dX4_isMissing_13 (bq0 (oi h)) rfl
  · refine g_iconst (pn := 9) (v := 1) K rfl ic_1 dX4_isMissing_8 ?_
    refine g_goto (tgt := 13) K (by decide) dX4_isMissing_9 ?_
    exact g_zret K rfl dX4_isMissing_13 (bq1 (oi h)) rfl
set_option maxHeartbeats 4000000 in
set_option maxRecDepth 20000 in
theorem w_f_Sheet_has {X : XT} {M : Mem} {t : Nat} {a1 : Int32} {r : Bool} (ht : isSheet t)  (h : f_Sheet_has M t a1 = some r) : CT layX X 0 yX4_has cX4_has 2 (some .boolean) [.ref (X.2.2.2.1 t), .int a1] M M (some (.int (b2i r))) := by
  refine CT.of rfl (Nat.le_of_ble_eq_true rfl) (lv := [(0, .ref (X.2.2.2.1 t)), (1, .int a1)]) rfl (fun Γ K => ?_)
  have K : Kx layX X Γ RX4 cX4_has 2 0 (some .boolean) := K
  unfold f_Sheet_has at h
  refine g_iload_n (pn := 1) K rfl 1 rfl dX4_has_0 ?_
  refine g_if_lt (tgt := 22) (pn := 4) K rfl (by decide) dX4_has_1 h (fun h => ?_) (fun h => ?_)
  · refine g_iconst (pn := 23) (v := 0) K rfl ic_0 dX4_has_22 ?_
    exact g_zret K rfl dX4_has_23 (bq0 (oi h)) rfl
  · refine g_iload_n (pn := 5) K rfl 1 rfl dX4_has_4 ?_
    refine g_aload_n (pn := 6) K rfl 0 rfl dX4_has_5 ?_
    refine g_geti (pn := 9) K rfl fl_X4_19 (lxSheet ht) rfl dX4_has_6 ?_
    refine g_icmp_ge (tgt := 22) (pn := 12) K rfl (by decide) dX4_has_9 h (fun h => ?_) (fun h => ?_)
    · refine g_iconst (pn := 23) (v := 0) K rfl ic_0 dX4_has_22 ?_
      exact g_zret K rfl dX4_has_23 (bq0 (oi h)) rfl
    · refine g_iload_n (pn := 13) K rfl 1 rfl dX4_has_12 ?_
      refine g_bipush (pn := 15) (v := 40) K rfl bp_40 dX4_has_13 ?_
      refine g_icmp_ge (tgt := 22) (pn := 18) K rfl (by decide) dX4_has_15 h (fun h => ?_) (fun h => ?_)
      · refine g_iconst (pn := 23) (v := 0) K rfl ic_0 dX4_has_22 ?_
        exact g_zret K rfl dX4_has_23 (bq0 (oi h)) rfl
      · refine g_iconst (pn := 19) (v := 1) K rfl ic_1 dX4_has_18 ?_
        refine g_goto (tgt := 23) K (by decide) dX4_has_19 ?_
        exact g_zret K rfl dX4_has_23 (bq1 (oi h)) rfl
set_option maxHeartbeats 4000000 in
set_option maxRecDepth 20000 in
theorem w_f_Sheet_hasRun {X : XT} {M : Mem} {t : Nat} {a1 : Int32} {a2 : Int32} {r : Bool} (ht : isSheet t)  (h : f_Sheet_hasRun M t a1 a2 = some r) : CT layX X 0 yX4_hasRun cX4_hasRun 3 (some .boolean) [.ref (X.2.2.2.1 t), .int a1, .int a2] M M (some (.int (b2i r))) := by
  refine CT.of rfl (Nat.le_of_ble_eq_true rfl) (lv := [(0, .ref (X.2.2.2.1 t)), (1, .int a1), (2, .int a2)]) rfl (fun Γ K => ?_)
  have K : Kx layX X Γ RX4 cX4_hasRun 3 0 (some .boolean) := K
  unfold f_Sheet_hasRun at h
  refine g_iload_n (pn := 1) K rfl 2 rfl dX4_hasRun_0 ?_
  refine g_if_lt (tgt := 30) (pn := 4) K rfl (by decide) dX4_hasRun_1 h (fun h => ?_) (fun h => ?_)
  · refine g_iconst (pn := 31) (v := 0) K rfl ic_0 dX4_hasRun_30 ?_
    exact g_zret K rfl dX4_hasRun_31 (bq0 (oi h)) rfl
  · refine g_iload_n (pn := 5) K rfl 2 rfl dX4_hasRun_4 ?_
    refine g_aload_n (pn := 6) K rfl 0 rfl dX4_hasRun_5 ?_
    refine g_geti (pn := 9) K rfl fl_X4_19 (lxSheet ht) rfl dX4_hasRun_6 ?_
    refine g_icmp_gt (tgt := 30) (pn := 12) K rfl (by decide) dX4_hasRun_9 h (fun h => ?_) (fun h => ?_)
    · refine g_iconst (pn := 31) (v := 0) K rfl ic_0 dX4_hasRun_30 ?_
      exact g_zret K rfl dX4_hasRun_31 (bq0 (oi h)) rfl
    · refine g_iload_n (pn := 13) K rfl 1 rfl dX4_hasRun_12 ?_
      refine g_if_lt (tgt := 30) (pn := 16) K rfl (by decide) dX4_hasRun_13 h (fun h => ?_) (fun h => ?_)
      · refine g_iconst (pn := 31) (v := 0) K rfl ic_0 dX4_hasRun_30 ?_
        exact g_zret K rfl dX4_hasRun_31 (bq0 (oi h)) rfl
      · refine g_iload_n (pn := 17) K rfl 1 rfl dX4_hasRun_16 ?_
        refine g_aload_n (pn := 18) K rfl 0 rfl dX4_hasRun_17 ?_
        refine g_geti (pn := 21) K rfl fl_X4_19 (lxSheet ht) rfl dX4_hasRun_18 ?_
        refine g_iload_n (pn := 22) K rfl 2 rfl dX4_hasRun_21 ?_
        refine g_isub (pn := 23) K rfl dX4_hasRun_22 ?_
        refine g_icmp_gt (tgt := 30) (pn := 26) K rfl (by decide) dX4_hasRun_23 h (fun h => ?_) (fun h => ?_)
        · refine g_iconst (pn := 31) (v := 0) K rfl ic_0 dX4_hasRun_30 ?_
          exact g_zret K rfl dX4_hasRun_31 (bq0 (oi h)) rfl
        · refine g_iconst (pn := 27) (v := 1) K rfl ic_1 dX4_hasRun_26 ?_
          refine g_goto (tgt := 31) K (by decide) dX4_hasRun_27 ?_
          exact g_zret K rfl dX4_hasRun_31 (bq1 (oi h)) rfl
set_option maxHeartbeats 4000000 in
set_option maxRecDepth 20000 in
theorem w_f_Sheet_become {X : XT} {M : Mem} {t : Nat} {a1 : Int32} {a2 : Int32} {M' : Mem} (ht : isSheet t)  (h : f_Sheet_become M t a1 a2 = some M') : CT layX X 0 yX4_become cX4_become 4 none [.ref (X.2.2.2.1 t), .int a1, .int a2] M M' none := by
  refine CT.of rfl (Nat.le_of_ble_eq_true rfl) (lv := [(0, .ref (X.2.2.2.1 t)), (1, .int a1), (2, .int a2)]) rfl (fun Γ K => ?_)
  have K : Kx layX X Γ RX4 cX4_become 4 0 none := K
  unfold f_Sheet_become at h
  refine g_aload_n (pn := 1) K rfl 0 rfl dX4_become_0 ?_
  refine g_iload_n (pn := 2) K rfl 1 rfl dX4_become_1 ?_
  refine g_puti (pn := 5) K rfl fp_X4_15 (lxSheet ht) rfl dX4_become_2 h (fun M1 h => ?_)
  refine g_aload_n (pn := 6) K rfl 0 rfl dX4_become_5 ?_
  refine g_iload_n (pn := 7) K rfl 2 rfl dX4_become_6 ?_
  refine g_puti (pn := 10) K rfl fp_X4_19 (lxSheet ht) rfl dX4_become_7 h (fun M2 h => ?_)
  refine g_iconst (pn := 11) (v := 0) K rfl ic_0 dX4_become_10 ?_
  refine g_istore_n (pn := 12) (lv' := [(3, .int 0), (0, .ref (X.2.2.2.1 t)), (1, .int a1), (2, .int a2)]) K rfl dX4_become_11 rfl (Nat.le_of_ble_eq_true rfl) rfl ?_
  refine jp_e1 h (fun M3 => G layX X Γ 4 (QM layX X Γ none M') 31 [] [] M3) (fun M3 h => ?_) (fun j4 hj4 h => ?_)
  · exact g_vret K dX4_become_31 (oi h)
  have LP12 : ∀ (fu7 : Nat) (v5 : Int32) (M6 : Mem), f_Sheet_become_L12 t j4 fu7 v5 M6 = some M' → G layX X Γ 4 (QM layX X Γ none M') 12 [(0, .ref (X.2.2.2.1 t)), (3, .int v5)] [] M6 := by
    intro fu7
    induction fu7 with
    | zero =>
      intro v5 M6 h
      rw [f_Sheet_become_L12] at h
      cases h
    | succ fu7 ih7 =>
      intro v5 M6 h
      rw [f_Sheet_become_L12] at h
      refine g_iload_n (pn := 13) K rfl 1 rfl dX4_become_12 ?_
      refine g_bipush (pn := 15) (v := 40) K rfl bp_40 dX4_become_13 ?_
      refine g_icmp_ge (tgt := 31) (pn := 18) K rfl (by decide) dX4_become_15 h (fun h => ?_) (fun h => ?_)
      · refine g_sub [] rfl ?_
        exact hj4 _ h
      · refine g_aload_n (pn := 19) K rfl 0 rfl dX4_become_18 ?_
        refine g_getr (pn := 22) (j := (t + 1)) K rfl fl_X4_9 (lxSheet ht) rfl dX4_become_19 ?_
        refine g_iload_n (pn := 23) K rfl 1 rfl dX4_become_22 ?_
        refine g_iconst (pn := 24) (v := 0) K rfl ic_0 dX4_become_23 ?_
        refine g_iast (pn := 25) K rfl (lxSheet1 ht) dX4_become_24 h (fun M8 h => ?_)
        obtain ⟨v9, ev9, h⟩ := bnd_e h
        refine g_iinc (pn := 28) (v := v9) (lv' := [(3, .int v9), (0, .ref (X.2.2.2.1 t))]) K rfl 1 rfl ii_1 ev9 dX4_become_25 (Nat.le_of_ble_eq_true rfl) rfl ?_
        refine g_goto (tgt := 12) K (by decide) dX4_become_28 ?_
        refine g_sub [1, 0] rfl ?_
        exact ih7 _ _ h
  refine g_sub [1, 0] rfl ?_
  exact LP12 FU _ _ h
set_option maxHeartbeats 4000000 in
set_option maxRecDepth 20000 in
theorem w_f_Sheet_put {X : XT} {M : Mem} {t : Nat} {a1 : Int32} {a2 : Int32} {M' : Mem} (ht : isSheet t)  (h : f_Sheet_put M t a1 a2 = some M') : CT layX X 1 yX4_put cX4_put 3 none [.ref (X.2.2.2.1 t), .int a1, .int a2] M M' none := by
  refine CT.of rfl (Nat.le_of_ble_eq_true rfl) (lv := [(0, .ref (X.2.2.2.1 t)), (1, .int a1), (2, .int a2)]) rfl (fun Γ K => ?_)
  have K : Kx layX X Γ RX4 cX4_put 3 1 none := K
  unfold f_Sheet_put at h
  refine g_aload_n (pn := 1) K rfl 0 rfl dX4_put_0 ?_
  refine g_iload_n (pn := 2) K rfl 1 rfl dX4_put_1 ?_
  obtain ⟨v2, hc1, h⟩ := ob_e h
  refine g_callV1 (pn := 5) (As := [.int a1]) (rest := []) (a := t) K rfl (d' := 0) (Nat.le_of_ble_eq_true rfl) mv_X4_22 (recvO K (lxSheet ht) rfl) (w_f_Sheet_has ht hc1) rfl rfl (Nat.le_of_ble_eq_true rfl) dX4_put_2 ?_
  refine g_ifB_eq (tgt := 40) (pn := 8) K rfl (by decide) dX4_put_5 h (fun h => ?_) (fun h => ?_)
  · exact g_vret K dX4_put_40 (oi h)
  · refine g_aload_n (pn := 9) K rfl 0 rfl dX4_put_8 ?_
    refine g_getr (pn := 12) (j := (t + 1)) K rfl fl_X4_9 (lxSheet ht) rfl dX4_put_9 ?_
    refine g_iload_n (pn := 13) K rfl 1 rfl dX4_put_12 ?_
    refine g_aload_n (pn := 14) K rfl 0 rfl dX4_put_13 ?_
    refine g_geti (pn := 17) K rfl fl_X4_15 (lxSheet ht) rfl dX4_put_14 ?_
    refine jp_e1 h (fun v3 => G layX X Γ 3 (QM layX X Γ none M') 39 [] [.int v3, .int a1, .ref (X.2.2.2.1 (t + 1))] M) (fun v3 h => ?_) (fun j4 hj4 h => ?_)
    · refine g_iast (pn := 40) K rfl (lxSheet1 ht) dX4_put_39 h (fun M5 h => ?_)
      exact g_vret K dX4_put_40 (oi h)
    refine g_if_ne (tgt := 25) (pn := 20) K rfl (by decide) dX4_put_17 h (fun h => ?_) (fun h => ?_)
    · refine g_aload_n (pn := 26) K rfl 0 rfl dX4_put_25 ?_
      refine g_geti (pn := 29) K rfl fl_X4_15 (lxSheet ht) rfl dX4_put_26 ?_
      refine g_iconst (pn := 30) (v := 1) K rfl ic_1 dX4_put_29 ?_
      refine g_icmp_ne (tgt := 38) (pn := 33) K rfl (by decide) dX4_put_30 h (fun h => ?_) (fun h => ?_)
      · refine g_iload_n (pn := 39) K rfl 2 rfl dX4_put_38 ?_
        refine g_sub [] rfl ?_
        exact hj4 _ h
      · refine g_iload_n (pn := 34) K rfl 2 rfl dX4_put_33 ?_
        refine g_i2s (pn := 35) K rfl dX4_put_34 ?_
        refine g_goto (tgt := 39) K (by decide) dX4_put_35 ?_
        refine g_sub [] rfl ?_
        exact hj4 _ h
    · refine g_iload_n (pn := 21) K rfl 2 rfl dX4_put_20 ?_
      refine g_i2b (pn := 22) K rfl dX4_put_21 ?_
      refine g_goto (tgt := 39) K (by decide) dX4_put_22 ?_
      refine g_sub [] rfl ?_
      exact hj4 _ h
set_option maxHeartbeats 4000000 in
set_option maxRecDepth 20000 in
theorem w_f_Site_has {X : XT} {M : Mem} {t : Nat} {a1 : Int32} {r : Bool} (ht : isSite t)  (h : f_Site_has M t a1 = some r) : CT layX X 0 yX5_has cX5_has 2 (some .boolean) [.ref (X.2.2.2.1 t), .int a1] M M (some (.int (b2i r))) := by
  refine CT.of rfl (Nat.le_of_ble_eq_true rfl) (lv := [(0, .ref (X.2.2.2.1 t)), (1, .int a1)]) rfl (fun Γ K => ?_)
  have K : Kx layX X Γ RX5 cX5_has 2 0 (some .boolean) := K
  unfold f_Site_has at h
  refine g_iload_n (pn := 1) K rfl 1 rfl dX5_has_0 ?_
  refine g_if_lt (tgt := 22) (pn := 4) K rfl (by decide) dX5_has_1 h (fun h => ?_) (fun h => ?_)
  · refine g_iconst (pn := 23) (v := 0) K rfl ic_0 dX5_has_22 ?_
    exact g_zret K rfl dX5_has_23 (bq0 (oi h)) rfl
  · refine g_iload_n (pn := 5) K rfl 1 rfl dX5_has_4 ?_
    refine g_aload_n (pn := 6) K rfl 0 rfl dX5_has_5 ?_
    refine g_geti (pn := 9) K rfl fl_X5_27 (lxSite ht) rfl dX5_has_6 ?_
    refine g_icmp_ge (tgt := 22) (pn := 12) K rfl (by decide) dX5_has_9 h (fun h => ?_) (fun h => ?_)
    · refine g_iconst (pn := 23) (v := 0) K rfl ic_0 dX5_has_22 ?_
      exact g_zret K rfl dX5_has_23 (bq0 (oi h)) rfl
    · refine g_iload_n (pn := 13) K rfl 1 rfl dX5_has_12 ?_
      refine g_bipush (pn := 15) (v := 6) K rfl bp_6 dX5_has_13 ?_
      refine g_icmp_ge (tgt := 22) (pn := 18) K rfl (by decide) dX5_has_15 h (fun h => ?_) (fun h => ?_)
      · refine g_iconst (pn := 23) (v := 0) K rfl ic_0 dX5_has_22 ?_
        exact g_zret K rfl dX5_has_23 (bq0 (oi h)) rfl
      · refine g_iconst (pn := 19) (v := 1) K rfl ic_1 dX5_has_18 ?_
        refine g_goto (tgt := 23) K (by decide) dX5_has_19 ?_
        exact g_zret K rfl dX5_has_23 (bq1 (oi h)) rfl
set_option maxHeartbeats 4000000 in
set_option maxRecDepth 20000 in
theorem w_f_Site_turn {X : XT} {M : Mem} {t : Nat} {a1 : Int32} {a2 : Int32} {M' : Mem} (ht : isSite t)  (h : f_Site_turn M t a1 a2 = some M') : CT layX X 0 yX5_turn cX5_turn 3 none [.ref (X.2.2.2.1 t), .int a1, .int a2] M M' none := by
  refine CT.of rfl (Nat.le_of_ble_eq_true rfl) (lv := [(0, .ref (X.2.2.2.1 t)), (1, .int a1), (2, .int a2)]) rfl (fun Γ K => ?_)
  have K : Kx layX X Γ RX5 cX5_turn 3 0 none := K
  unfold f_Site_turn at h
  refine g_iload_n (pn := 1) K rfl 1 rfl dX5_turn_0 ?_
  refine g_if_lt (tgt := 16) (pn := 4) K rfl (by decide) dX5_turn_1 h (fun h => ?_) (fun h => ?_)
  · exact g_vret K dX5_turn_16 (oi h)
  · refine g_iload_n (pn := 5) K rfl 1 rfl dX5_turn_4 ?_
    refine g_iconst (pn := 6) (v := 5) K rfl ic_5 dX5_turn_5 ?_
    refine g_icmp_gt (tgt := 16) (pn := 9) K rfl (by decide) dX5_turn_6 h (fun h => ?_) (fun h => ?_)
    · exact g_vret K dX5_turn_16 (oi h)
    · refine g_aload_n (pn := 10) K rfl 0 rfl dX5_turn_9 ?_
      refine g_getr (pn := 13) (j := (t + 1)) K rfl fl_X5_9 (lxSite ht) rfl dX5_turn_10 ?_
      refine g_iload_n (pn := 14) K rfl 1 rfl dX5_turn_13 ?_
      refine g_iload_n (pn := 15) K rfl 2 rfl dX5_turn_14 ?_
      refine g_iast (pn := 16) K rfl (lxSite1 ht) dX5_turn_15 h (fun M1 h => ?_)
      exact g_vret K dX5_turn_16 (oi h)
set_option maxHeartbeats 4000000 in
set_option maxRecDepth 20000 in
theorem w_f_Site_rowOf {X : XT} {M : Mem} {t : Nat} {a1 : Int32} {r : Nat} (ht : isSite t)  (h : f_Site_rowOf t a1 = some r) : CT layX X 0 yX5_rowOf cX5_rowOf 2 (some (.array .int)) [.ref (X.2.2.2.1 t), .int a1] M M (some (.ref (X.2.2.2.1 r))) := by
  refine CT.of rfl (Nat.le_of_ble_eq_true rfl) (lv := [(0, .ref (X.2.2.2.1 t)), (1, .int a1)]) rfl (fun Γ K => ?_)
  have K : Kx layX X Γ RX5 cX5_rowOf 2 0 (some (.array .int)) := K
  unfold f_Site_rowOf at h
  refine g_iload_n (pn := 1) K rfl 1 rfl dX5_rowOf_0 ?_
  rcases Decidable.em (a1 = 6) with hs | hs0
  · replace h := (ite_e h).1 hs
    refine g_tsw (tgt := 28) (v := 6) (off := 27) K hs (by decide) (by decide) (by decide) (by decide) dX5_rowOf_1 ?_
    refine g_aload_n (pn := 29) K rfl 0 rfl dX5_rowOf_28 ?_
    refine g_getr (pn := 32) (j := (t + 3)) K rfl fl_X5_18 (lxSite ht) rfl dX5_rowOf_29 ?_
    exact g_aret K (Or.inr ⟨_, rfl⟩) (Or.inr ⟨_, rfl⟩) dX5_rowOf_32 (by rw [oi h]) rfl
  · replace h := (ite_e h).2 hs0
    rcases Decidable.em (a1 = 7) with hs | hs1
    · replace h := (ite_e h).1 hs
      refine g_tsw (tgt := 33) (v := 7) (off := 32) K hs (by decide) (by decide) (by decide) (by decide) dX5_rowOf_1 ?_
      refine g_aload_n (pn := 34) K rfl 0 rfl dX5_rowOf_33 ?_
      refine g_getr (pn := 37) (j := (t + 4)) K rfl fl_X5_21 (lxSite ht) rfl dX5_rowOf_34 ?_
      exact g_aret K (Or.inr ⟨_, rfl⟩) (Or.inr ⟨_, rfl⟩) dX5_rowOf_37 (by rw [oi h]) rfl
    · replace h := (ite_e h).2 hs1
      rcases Decidable.em (a1 = 8) with hs | hs2
      · replace h := (ite_e h).1 hs
        refine g_tsw (tgt := 38) (v := 8) (off := 37) K hs (by decide) (by decide) (by decide) (by decide) dX5_rowOf_1 ?_
        refine g_aload_n (pn := 39) K rfl 0 rfl dX5_rowOf_38 ?_
        refine g_getr (pn := 42) (j := (t + 5)) K rfl fl_X5_24 (lxSite ht) rfl dX5_rowOf_39 ?_
        exact g_aret K (Or.inr ⟨_, rfl⟩) (Or.inr ⟨_, rfl⟩) dX5_rowOf_42 (by rw [oi h]) rfl
      · replace h := (ite_e h).2 hs2
        refine g_tswD (tgt := 43) K [6, 7, 8] (by decide) (by decide) (by simp only [List.forall_mem_cons]; exact ⟨hs0, hs1, hs2, fun _ h => absurd h List.not_mem_nil⟩) (by decide) dX5_rowOf_1 ?_
        refine g_aload_n (pn := 44) K rfl 0 rfl dX5_rowOf_43 ?_
        refine g_getr (pn := 47) (j := (t + 1)) K rfl fl_X5_9 (lxSite ht) rfl dX5_rowOf_44 ?_
        exact g_aret K (Or.inr ⟨_, rfl⟩) (Or.inr ⟨_, rfl⟩) dX5_rowOf_47 (by rw [oi h]) rfl
set_option maxHeartbeats 4000000 in
set_option maxRecDepth 20000 in
theorem w_f_Site_add {X : XT} {M : Mem} {t : Nat} {a1 : Int32} {a2 : Int32} {a3 : Int32} {M' : Mem} {r : Int32} (ht : isSite t)  (h : f_Site_add M t a1 a2 a3 = some (M', r)) : CT layX X 0 yX5_add cX5_add 4 (some .int) [.ref (X.2.2.2.1 t), .int a1, .int a2, .int a3] M M' (some (.int r)) := by
  refine CT.of rfl (Nat.le_of_ble_eq_true rfl) (lv := [(0, .ref (X.2.2.2.1 t)), (1, .int a1), (2, .int a2), (3, .int a3)]) rfl (fun Γ K => ?_)
  have K : Kx layX X Γ RX5 cX5_add 4 0 (some .int) := K
  unfold f_Site_add at h
  refine g_aload_n (pn := 1) K rfl 0 rfl dX5_add_0 ?_
  refine g_geti (pn := 4) K rfl fl_X5_27 (lxSite ht) rfl dX5_add_1 ?_
  refine g_if_lt (tgt := 16) (pn := 7) K rfl (by decide) dX5_add_4 h (fun h => ?_) (fun h => ?_)
  · refine g_bipush (pn := 18) (v := (-4)) K rfl bp_m4 dX5_add_16 ?_
    exact g_iret K dX5_add_18 (oi2 h).2 (oi2 h).1
  · refine g_aload_n (pn := 8) K rfl 0 rfl dX5_add_7 ?_
    refine g_geti (pn := 11) K rfl fl_X5_27 (lxSite ht) rfl dX5_add_8 ?_
    refine g_bipush (pn := 13) (v := 6) K rfl bp_6 dX5_add_11 ?_
    refine g_icmp_lt (tgt := 19) (pn := 16) K rfl (by decide) dX5_add_13 h (fun h => ?_) (fun h => ?_)
    · refine g_aload_n (pn := 20) K rfl 0 rfl dX5_add_19 ?_
      refine g_getr (pn := 23) (j := (t + 2)) K rfl fl_X5_15 (lxSite ht) rfl dX5_add_20 ?_
      refine g_aload_n (pn := 24) K rfl 0 rfl dX5_add_23 ?_
      refine g_geti (pn := 27) K rfl fl_X5_27 (lxSite ht) rfl dX5_add_24 ?_
      refine g_iload_n (pn := 28) K rfl 1 rfl dX5_add_27 ?_
      refine g_iast (pn := 29) K rfl (lxSite2 ht) dX5_add_28 h (fun M1 h => ?_)
      refine g_aload_n (pn := 30) K rfl 0 rfl dX5_add_29 ?_
      refine g_getr (pn := 33) (j := (t + 3)) K rfl fl_X5_18 (lxSite ht) rfl dX5_add_30 ?_
      refine g_aload_n (pn := 34) K rfl 0 rfl dX5_add_33 ?_
      refine g_geti (pn := 37) K rfl fl_X5_27 (lxSite ht) rfl dX5_add_34 ?_
      refine g_iload_n (pn := 38) K rfl 2 rfl dX5_add_37 ?_
      refine g_iast (pn := 39) K rfl (lxSite3 ht) dX5_add_38 h (fun M2 h => ?_)
      refine g_aload_n (pn := 40) K rfl 0 rfl dX5_add_39 ?_
      refine g_getr (pn := 43) (j := (t + 4)) K rfl fl_X5_21 (lxSite ht) rfl dX5_add_40 ?_
      refine g_aload_n (pn := 44) K rfl 0 rfl dX5_add_43 ?_
      refine g_geti (pn := 47) K rfl fl_X5_27 (lxSite ht) rfl dX5_add_44 ?_
      refine g_iload_n (pn := 48) K rfl 3 rfl dX5_add_47 ?_
      refine g_iast (pn := 49) K rfl (lxSite4 ht) dX5_add_48 h (fun M3 h => ?_)
      refine g_aload_n (pn := 50) K rfl 0 rfl dX5_add_49 ?_
      refine g_getr (pn := 53) (j := (t + 5)) K rfl fl_X5_24 (lxSite ht) rfl dX5_add_50 ?_
      refine g_aload_n (pn := 54) K rfl 0 rfl dX5_add_53 ?_
      refine g_geti (pn := 57) K rfl fl_X5_27 (lxSite ht) rfl dX5_add_54 ?_
      refine g_iconst (pn := 58) (v := 0) K rfl ic_0 dX5_add_57 ?_
      refine g_iast (pn := 59) K rfl (lxSite5 ht) dX5_add_58 h (fun M4 h => ?_)
      refine g_aload_n (pn := 60) K rfl 0 rfl dX5_add_59 ?_
      refine g_dup (pn := 61) K rfl rfl dX5_add_60 ?_
      refine g_geti (pn := 64) K rfl fl_X5_27 (lxSite ht) rfl dX5_add_61 ?_
      refine g_iconst (pn := 65) (v := 1) K rfl ic_1 dX5_add_64 ?_
      refine g_iadd (pn := 66) K rfl dX5_add_65 ?_
      refine g_puti (pn := 69) K rfl fp_X5_27 (lxSite ht) rfl dX5_add_66 h (fun M5 h => ?_)
      refine g_aload_n (pn := 70) K rfl 0 rfl dX5_add_69 ?_
      refine g_geti (pn := 73) K rfl fl_X5_27 (lxSite ht) rfl dX5_add_70 ?_
      refine g_iconst (pn := 74) (v := 1) K rfl ic_1 dX5_add_73 ?_
      refine g_isub (pn := 75) K rfl dX5_add_74 ?_
      exact g_iret K dX5_add_75 (oi2 h).2 (oi2 h).1
    · refine g_bipush (pn := 18) (v := (-4)) K rfl bp_m4 dX5_add_16 ?_
      exact g_iret K dX5_add_18 (oi2 h).2 (oi2 h).1
set_option maxHeartbeats 4000000 in
set_option maxRecDepth 20000 in
theorem w_f_Site_wetJust {X : XT} {M : Mem} {t : Nat} {a1 : Int32} {M' : Mem} (ht : isSite t)  (h : f_Site_wetJust M t a1 = some M') : CT layX X 0 yX5_wetJust cX5_wetJust 3 none [.ref (X.2.2.2.1 t), .int a1] M M' none := by
  refine CT.of rfl (Nat.le_of_ble_eq_true rfl) (lv := [(0, .ref (X.2.2.2.1 t)), (1, .int a1)]) rfl (fun Γ K => ?_)
  have K : Kx layX X Γ RX5 cX5_wetJust 3 0 none := K
  unfold f_Site_wetJust at h
  refine g_iconst (pn := 1) (v := 0) K rfl ic_0 dX5_wetJust_0 ?_
  refine g_istore_n (pn := 2) (lv' := [(2, .int 0), (0, .ref (X.2.2.2.1 t)), (1, .int a1)]) K rfl dX5_wetJust_1 rfl (Nat.le_of_ble_eq_true rfl) rfl ?_
  refine jp_e1 h (fun M1 => G layX X Γ 3 (QM layX X Γ none M') 25 [] [] M1) (fun M1 h => ?_) (fun j2 hj2 h => ?_)
  · exact g_vret K dX5_wetJust_25 (oi h)
  have LP2 : ∀ (fu5 : Nat) (v3 : Int32) (M4 : Mem), f_Site_wetJust_L2 t a1 j2 fu5 v3 M4 = some M' → G layX X Γ 3 (QM layX X Γ none M') 2 [(0, .ref (X.2.2.2.1 t)), (1, .int a1), (2, .int v3)] [] M4 := by
    intro fu5
    induction fu5 with
    | zero =>
      intro v3 M4 h
      rw [f_Site_wetJust_L2] at h
      cases h
    | succ fu5 ih5 =>
      intro v3 M4 h
      rw [f_Site_wetJust_L2] at h
      refine g_iload_n (pn := 3) K rfl 2 rfl dX5_wetJust_2 ?_
      refine g_bipush (pn := 5) (v := 6) K rfl bp_6 dX5_wetJust_3 ?_
      refine g_icmp_ge (tgt := 25) (pn := 8) K rfl (by decide) dX5_wetJust_5 h (fun h => ?_) (fun h => ?_)
      · refine g_sub [] rfl ?_
        exact hj2 _ h
      · refine g_aload_n (pn := 9) K rfl 0 rfl dX5_wetJust_8 ?_
        refine g_getr (pn := 12) (j := (t + 5)) K rfl fl_X5_24 (lxSite ht) rfl dX5_wetJust_9 ?_
        refine g_iload_n (pn := 13) K rfl 2 rfl dX5_wetJust_12 ?_
        refine g_iload_n (pn := 14) K rfl 1 rfl dX5_wetJust_13 ?_
        refine g_iload_n (pn := 15) K rfl 2 rfl dX5_wetJust_14 ?_
        refine g_ishr (pn := 16) K rfl dX5_wetJust_15 ?_
        refine g_iconst (pn := 17) (v := 1) K rfl ic_1 dX5_wetJust_16 ?_
        refine g_iand (pn := 18) K rfl dX5_wetJust_17 ?_
        refine g_iast (pn := 19) K rfl (lxSite5 ht) dX5_wetJust_18 h (fun M6 h => ?_)
        obtain ⟨v7, ev7, h⟩ := bnd_e h
        refine g_iinc (pn := 22) (v := v7) (lv' := [(2, .int v7), (0, .ref (X.2.2.2.1 t)), (1, .int a1)]) K rfl 2 rfl ii_1 ev7 dX5_wetJust_19 (Nat.le_of_ble_eq_true rfl) rfl ?_
        refine g_goto (tgt := 2) K (by decide) dX5_wetJust_22 ?_
        refine g_sub [1, 2, 0] rfl ?_
        exact ih5 _ _ h
  refine g_sub [1, 2, 0] rfl ?_
  exact LP2 FU _ _ h
set_option maxHeartbeats 4000000 in
set_option maxRecDepth 20000 in
theorem w_f_Site_become {X : XT} {M : Mem} {t : Nat} {t1 : Nat} {M' : Mem} (ht : isSite t) (ht1 : isSite t1)  (h : f_Site_become M t t1 = some M') : CT layX X 0 yX5_become cX5_become 3 none [.ref (X.2.2.2.1 t), .ref (X.2.2.2.1 t1)] M M' none := by
  refine CT.of rfl (Nat.le_of_ble_eq_true rfl) (lv := [(0, .ref (X.2.2.2.1 t)), (1, .ref (X.2.2.2.1 t1))]) rfl (fun Γ K => ?_)
  have K : Kx layX X Γ RX5 cX5_become 3 0 none := K
  unfold f_Site_become at h
  refine g_iconst (pn := 1) (v := 0) K rfl ic_0 dX5_become_0 ?_
  refine g_istore_n (pn := 2) (lv' := [(2, .int 0), (0, .ref (X.2.2.2.1 t)), (1, .ref (X.2.2.2.1 t1))]) K rfl dX5_become_1 rfl (Nat.le_of_ble_eq_true rfl) rfl ?_
  refine jp_e1 h (fun M1 => G layX X Γ 3 (QM layX X Γ none M') 25 [(0, .ref (X.2.2.2.1 t)), (1, .ref (X.2.2.2.1 t1))] [] M1) (fun M1 h => ?_) (fun j2 hj2 h => ?_)
  · refine g_iconst (pn := 26) (v := 0) K rfl ic_0 dX5_become_25 ?_
    refine g_istore_n (pn := 27) (lv' := [(2, .int 0), (0, .ref (X.2.2.2.1 t)), (1, .ref (X.2.2.2.1 t1))]) K rfl dX5_become_26 rfl (Nat.le_of_ble_eq_true rfl) rfl ?_
    refine jp_e1 h (fun M3 => G layX X Γ 3 (QM layX X Γ none M') 87 [(0, .ref (X.2.2.2.1 t)), (1, .ref (X.2.2.2.1 t1))] [] M3) (fun M3 h => ?_) (fun j4 hj4 h => ?_)
    · refine g_aload_n (pn := 88) K rfl 0 rfl dX5_become_87 ?_
      refine g_aload_n (pn := 89) K rfl 1 rfl dX5_become_88 ?_
      refine g_geti (pn := 92) K rfl fl_X5_27 (lxSite ht1) rfl dX5_become_89 ?_
      refine g_puti (pn := 95) K rfl fp_X5_27 (lxSite ht) rfl dX5_become_92 h (fun M5 h => ?_)
      refine g_aload_n (pn := 96) K rfl 0 rfl dX5_become_95 ?_
      refine g_aload_n (pn := 97) K rfl 1 rfl dX5_become_96 ?_
      refine g_geti (pn := 100) K rfl fl_X5_31 (lxSite ht1) rfl dX5_become_97 ?_
      refine g_puti (pn := 103) K rfl fp_X5_31 (lxSite ht) rfl dX5_become_100 h (fun M6 h => ?_)
      exact g_vret K dX5_become_103 (oi h)
    have LP27 : ∀ (fu9 : Nat) (v7 : Int32) (M8 : Mem), f_Site_become_L27 t t1 j4 fu9 v7 M8 = some M' → G layX X Γ 3 (QM layX X Γ none M') 27 [(0, .ref (X.2.2.2.1 t)), (1, .ref (X.2.2.2.1 t1)), (2, .int v7)] [] M8 := by
      intro fu9
      induction fu9 with
      | zero =>
        intro v7 M8 h
        rw [f_Site_become_L27] at h
        cases h
      | succ fu9 ih9 =>
        intro v7 M8 h
        rw [f_Site_become_L27] at h
        refine g_iload_n (pn := 28) K rfl 2 rfl dX5_become_27 ?_
        refine g_bipush (pn := 30) (v := 6) K rfl bp_6 dX5_become_28 ?_
        refine g_icmp_ge (tgt := 87) (pn := 33) K rfl (by decide) dX5_become_30 h (fun h => ?_) (fun h => ?_)
        · refine g_sub [0, 1] rfl ?_
          exact hj4 _ h
        · refine g_aload_n (pn := 34) K rfl 0 rfl dX5_become_33 ?_
          refine g_getr (pn := 37) (j := (t + 2)) K rfl fl_X5_15 (lxSite ht) rfl dX5_become_34 ?_
          refine g_iload_n (pn := 38) K rfl 2 rfl dX5_become_37 ?_
          refine g_aload_n (pn := 39) K rfl 1 rfl dX5_become_38 ?_
          refine g_getr (pn := 42) (j := (t1 + 2)) K rfl fl_X5_15 (lxSite ht1) rfl dX5_become_39 ?_
          refine g_iload_n (pn := 43) K rfl 2 rfl dX5_become_42 ?_
          refine g_iald (pn := 44) K rfl (lxSite2 ht1) dX5_become_43 h (fun h => ?_)
          refine g_iast (pn := 45) K rfl (lxSite2 ht) dX5_become_44 h (fun M10 h => ?_)
          refine g_aload_n (pn := 46) K rfl 0 rfl dX5_become_45 ?_
          refine g_getr (pn := 49) (j := (t + 3)) K rfl fl_X5_18 (lxSite ht) rfl dX5_become_46 ?_
          refine g_iload_n (pn := 50) K rfl 2 rfl dX5_become_49 ?_
          refine g_aload_n (pn := 51) K rfl 1 rfl dX5_become_50 ?_
          refine g_getr (pn := 54) (j := (t1 + 3)) K rfl fl_X5_18 (lxSite ht1) rfl dX5_become_51 ?_
          refine g_iload_n (pn := 55) K rfl 2 rfl dX5_become_54 ?_
          refine g_iald (pn := 56) K rfl (lxSite3 ht1) dX5_become_55 h (fun h => ?_)
          refine g_iast (pn := 57) K rfl (lxSite3 ht) dX5_become_56 h (fun M11 h => ?_)
          refine g_aload_n (pn := 58) K rfl 0 rfl dX5_become_57 ?_
          refine g_getr (pn := 61) (j := (t + 4)) K rfl fl_X5_21 (lxSite ht) rfl dX5_become_58 ?_
          refine g_iload_n (pn := 62) K rfl 2 rfl dX5_become_61 ?_
          refine g_aload_n (pn := 63) K rfl 1 rfl dX5_become_62 ?_
          refine g_getr (pn := 66) (j := (t1 + 4)) K rfl fl_X5_21 (lxSite ht1) rfl dX5_become_63 ?_
          refine g_iload_n (pn := 67) K rfl 2 rfl dX5_become_66 ?_
          refine g_iald (pn := 68) K rfl (lxSite4 ht1) dX5_become_67 h (fun h => ?_)
          refine g_iast (pn := 69) K rfl (lxSite4 ht) dX5_become_68 h (fun M12 h => ?_)
          refine g_aload_n (pn := 70) K rfl 0 rfl dX5_become_69 ?_
          refine g_getr (pn := 73) (j := (t + 5)) K rfl fl_X5_24 (lxSite ht) rfl dX5_become_70 ?_
          refine g_iload_n (pn := 74) K rfl 2 rfl dX5_become_73 ?_
          refine g_aload_n (pn := 75) K rfl 1 rfl dX5_become_74 ?_
          refine g_getr (pn := 78) (j := (t1 + 5)) K rfl fl_X5_24 (lxSite ht1) rfl dX5_become_75 ?_
          refine g_iload_n (pn := 79) K rfl 2 rfl dX5_become_78 ?_
          refine g_iald (pn := 80) K rfl (lxSite5 ht1) dX5_become_79 h (fun h => ?_)
          refine g_iast (pn := 81) K rfl (lxSite5 ht) dX5_become_80 h (fun M13 h => ?_)
          obtain ⟨v14, ev14, h⟩ := bnd_e h
          refine g_iinc (pn := 84) (v := v14) (lv' := [(2, .int v14), (0, .ref (X.2.2.2.1 t)), (1, .ref (X.2.2.2.1 t1))]) K rfl 2 rfl ii_1 ev14 dX5_become_81 (Nat.le_of_ble_eq_true rfl) rfl ?_
          refine g_goto (tgt := 27) K (by decide) dX5_become_84 ?_
          refine g_sub [1, 2, 0] rfl ?_
          exact ih9 _ _ h
    refine g_sub [1, 2, 0] rfl ?_
    exact LP27 FU _ _ h
  have LP2 : ∀ (fu17 : Nat) (v15 : Int32) (M16 : Mem), f_Site_become_L2 t t1 j2 fu17 v15 M16 = some M' → G layX X Γ 3 (QM layX X Γ none M') 2 [(0, .ref (X.2.2.2.1 t)), (1, .ref (X.2.2.2.1 t1)), (2, .int v15)] [] M16 := by
    intro fu17
    induction fu17 with
    | zero =>
      intro v15 M16 h
      rw [f_Site_become_L2] at h
      cases h
    | succ fu17 ih17 =>
      intro v15 M16 h
      rw [f_Site_become_L2] at h
      refine g_iload_n (pn := 3) K rfl 2 rfl dX5_become_2 ?_
      refine g_iconst (pn := 4) (v := 5) K rfl ic_5 dX5_become_3 ?_
      refine g_icmp_gt (tgt := 25) (pn := 7) K rfl (by decide) dX5_become_4 h (fun h => ?_) (fun h => ?_)
      · refine g_sub [0, 1] rfl ?_
        exact hj2 _ h
      · refine g_aload_n (pn := 8) K rfl 0 rfl dX5_become_7 ?_
        refine g_getr (pn := 11) (j := (t + 1)) K rfl fl_X5_9 (lxSite ht) rfl dX5_become_8 ?_
        refine g_iload_n (pn := 12) K rfl 2 rfl dX5_become_11 ?_
        refine g_aload_n (pn := 13) K rfl 1 rfl dX5_become_12 ?_
        refine g_getr (pn := 16) (j := (t1 + 1)) K rfl fl_X5_9 (lxSite ht1) rfl dX5_become_13 ?_
        refine g_iload_n (pn := 17) K rfl 2 rfl dX5_become_16 ?_
        refine g_iald (pn := 18) K rfl (lxSite1 ht1) dX5_become_17 h (fun h => ?_)
        refine g_iast (pn := 19) K rfl (lxSite1 ht) dX5_become_18 h (fun M18 h => ?_)
        obtain ⟨v19, ev19, h⟩ := bnd_e h
        refine g_iinc (pn := 22) (v := v19) (lv' := [(2, .int v19), (0, .ref (X.2.2.2.1 t)), (1, .ref (X.2.2.2.1 t1))]) K rfl 2 rfl ii_1 ev19 dX5_become_19 (Nat.le_of_ble_eq_true rfl) rfl ?_
        refine g_goto (tgt := 2) K (by decide) dX5_become_22 ?_
        refine g_sub [1, 2, 0] rfl ?_
        exact ih17 _ _ h
  refine g_sub [1, 2, 0] rfl ?_
  exact LP2 FU _ _ h
set_option maxHeartbeats 4000000 in
set_option maxRecDepth 20000 in
theorem w_f_Text_clear {X : XT} {M : Mem} {t : Nat} {M' : Mem} (ht : isText t)  (h : f_Text_clear M t = some M') : CT layX X 0 yX7_clear cX7_clear 1 none [.ref (X.2.2.2.1 t)] M M' none := by
  refine CT.of rfl (Nat.le_of_ble_eq_true rfl) (lv := [(0, .ref (X.2.2.2.1 t))]) rfl (fun Γ K => ?_)
  have K : Kx layX X Γ RX7 cX7_clear 1 0 none := K
  unfold f_Text_clear at h
  refine g_aload_n (pn := 1) K rfl 0 rfl dX7_clear_0 ?_
  refine g_iconst (pn := 2) (v := 0) K rfl ic_0 dX7_clear_1 ?_
  refine g_puti (pn := 5) K rfl fp_X7_18 (lxText ht) rfl dX7_clear_2 h (fun M1 h => ?_)
  exact g_vret K dX7_clear_5 (oi h)
set_option maxHeartbeats 4000000 in
set_option maxRecDepth 20000 in
theorem w_f_Text_add {X : XT} {M : Mem} {t : Nat} {a1 : Int32} {M' : Mem} (ht : isText t)  (h : f_Text_add M t a1 = some M') : CT layX X 0 yX7_add cX7_add 2 none [.ref (X.2.2.2.1 t), .int a1] M M' none := by
  refine CT.of rfl (Nat.le_of_ble_eq_true rfl) (lv := [(0, .ref (X.2.2.2.1 t)), (1, .int a1)]) rfl (fun Γ K => ?_)
  have K : Kx layX X Γ RX7 cX7_add 2 0 none := K
  unfold f_Text_add at h
  refine g_aload_n (pn := 1) K rfl 0 rfl dX7_add_0 ?_
  refine g_geti (pn := 4) K rfl fl_X7_18 (lxText ht) rfl dX7_add_1 ?_
  refine g_if_lt (tgt := 37) (pn := 7) K rfl (by decide) dX7_add_4 h (fun h => ?_) (fun h => ?_)
  · exact g_vret K dX7_add_37 (oi h)
  · refine g_aload_n (pn := 8) K rfl 0 rfl dX7_add_7 ?_
    refine g_geti (pn := 11) K rfl fl_X7_18 (lxText ht) rfl dX7_add_8 ?_
    refine g_sipush (pn := 14) (v := 160) K rfl sp_160 dX7_add_11 ?_
    refine g_icmp_ge (tgt := 37) (pn := 17) K rfl (by decide) dX7_add_14 h (fun h => ?_) (fun h => ?_)
    · exact g_vret K dX7_add_37 (oi h)
    · refine g_aload_n (pn := 18) K rfl 0 rfl dX7_add_17 ?_
      refine g_getr (pn := 21) (j := (t + 1)) K rfl fl_X7_9 (lxText ht) rfl dX7_add_18 ?_
      refine g_aload_n (pn := 22) K rfl 0 rfl dX7_add_21 ?_
      refine g_geti (pn := 25) K rfl fl_X7_18 (lxText ht) rfl dX7_add_22 ?_
      refine g_iload_n (pn := 26) K rfl 1 rfl dX7_add_25 ?_
      refine g_iast (pn := 27) K rfl (lxText1 ht) dX7_add_26 h (fun M1 h => ?_)
      refine g_aload_n (pn := 28) K rfl 0 rfl dX7_add_27 ?_
      refine g_dup (pn := 29) K rfl rfl dX7_add_28 ?_
      refine g_geti (pn := 32) K rfl fl_X7_18 (lxText ht) rfl dX7_add_29 ?_
      refine g_iconst (pn := 33) (v := 1) K rfl ic_1 dX7_add_32 ?_
      refine g_iadd (pn := 34) K rfl dX7_add_33 ?_
      refine g_puti (pn := 37) K rfl fp_X7_18 (lxText ht) rfl dX7_add_34 h (fun M2 h => ?_)
      exact g_vret K dX7_add_37 (oi h)
set_option maxHeartbeats 4000000 in
set_option maxRecDepth 20000 in
theorem w_f_Text_endPart {X : XT} {M : Mem} {t : Nat} {a1 : Int32} {M' : Mem} (ht : isText t)  (h : f_Text_endPart M t a1 = some M') : CT layX X 0 yX7_endPart cX7_endPart 2 none [.ref (X.2.2.2.1 t), .int a1] M M' none := by
  refine CT.of rfl (Nat.le_of_ble_eq_true rfl) (lv := [(0, .ref (X.2.2.2.1 t)), (1, .int a1)]) rfl (fun Γ K => ?_)
  have K : Kx layX X Γ RX7 cX7_endPart 2 0 none := K
  unfold f_Text_endPart at h
  refine g_iload_n (pn := 1) K rfl 1 rfl dX7_endPart_0 ?_
  refine g_if_lt (tgt := 21) (pn := 4) K rfl (by decide) dX7_endPart_1 h (fun h => ?_) (fun h => ?_)
  · exact g_vret K dX7_endPart_21 (oi h)
  · refine g_iload_n (pn := 5) K rfl 1 rfl dX7_endPart_4 ?_
    refine g_iconst (pn := 6) (v := 3) K rfl ic_3 dX7_endPart_5 ?_
    refine g_icmp_ge (tgt := 21) (pn := 9) K rfl (by decide) dX7_endPart_6 h (fun h => ?_) (fun h => ?_)
    · exact g_vret K dX7_endPart_21 (oi h)
    · refine g_aload_n (pn := 10) K rfl 0 rfl dX7_endPart_9 ?_
      refine g_getr (pn := 13) (j := (t + 2)) K rfl fl_X7_15 (lxText ht) rfl dX7_endPart_10 ?_
      refine g_iload_n (pn := 14) K rfl 1 rfl dX7_endPart_13 ?_
      refine g_iconst (pn := 15) (v := 1) K rfl ic_1 dX7_endPart_14 ?_
      refine g_iadd (pn := 16) K rfl dX7_endPart_15 ?_
      refine g_aload_n (pn := 17) K rfl 0 rfl dX7_endPart_16 ?_
      refine g_geti (pn := 20) K rfl fl_X7_18 (lxText ht) rfl dX7_endPart_17 ?_
      refine g_iast (pn := 21) K rfl (lxText2 ht) dX7_endPart_20 h (fun M1 h => ?_)
      exact g_vret K dX7_endPart_21 (oi h)
set_option maxHeartbeats 4000000 in
set_option maxRecDepth 20000 in
theorem w_f_Text_become {X : XT} {M : Mem} {t : Nat} {t1 : Nat} {M' : Mem} (ht : isText t) (ht1 : isText t1)  (h : f_Text_become M t t1 = some M') : CT layX X 0 yX7_become cX7_become 3 none [.ref (X.2.2.2.1 t), .ref (X.2.2.2.1 t1)] M M' none := by
  refine CT.of rfl (Nat.le_of_ble_eq_true rfl) (lv := [(0, .ref (X.2.2.2.1 t)), (1, .ref (X.2.2.2.1 t1))]) rfl (fun Γ K => ?_)
  have K : Kx layX X Γ RX7 cX7_become 3 0 none := K
  unfold f_Text_become at h
  refine g_iconst (pn := 1) (v := 0) K rfl ic_0 dX7_become_0 ?_
  refine g_istore_n (pn := 2) (lv' := [(2, .int 0), (0, .ref (X.2.2.2.1 t)), (1, .ref (X.2.2.2.1 t1))]) K rfl dX7_become_1 rfl (Nat.le_of_ble_eq_true rfl) rfl ?_
  refine jp_e1 h (fun M1 => G layX X Γ 3 (QM layX X Γ none M') 27 [(0, .ref (X.2.2.2.1 t)), (1, .ref (X.2.2.2.1 t1))] [] M1) (fun M1 h => ?_) (fun j2 hj2 h => ?_)
  · refine g_iconst (pn := 28) (v := 0) K rfl ic_0 dX7_become_27 ?_
    refine g_istore_n (pn := 29) (lv' := [(2, .int 0), (0, .ref (X.2.2.2.1 t)), (1, .ref (X.2.2.2.1 t1))]) K rfl dX7_become_28 rfl (Nat.le_of_ble_eq_true rfl) rfl ?_
    refine jp_e1 h (fun M3 => G layX X Γ 3 (QM layX X Γ none M') 52 [(0, .ref (X.2.2.2.1 t)), (1, .ref (X.2.2.2.1 t1))] [] M3) (fun M3 h => ?_) (fun j4 hj4 h => ?_)
    · refine g_aload_n (pn := 53) K rfl 0 rfl dX7_become_52 ?_
      refine g_aload_n (pn := 54) K rfl 1 rfl dX7_become_53 ?_
      refine g_geti (pn := 57) K rfl fl_X7_18 (lxText ht1) rfl dX7_become_54 ?_
      refine g_puti (pn := 60) K rfl fp_X7_18 (lxText ht) rfl dX7_become_57 h (fun M5 h => ?_)
      exact g_vret K dX7_become_60 (oi h)
    have LP29 : ∀ (fu8 : Nat) (v6 : Int32) (M7 : Mem), f_Text_become_L29 t t1 j4 fu8 v6 M7 = some M' → G layX X Γ 3 (QM layX X Γ none M') 29 [(0, .ref (X.2.2.2.1 t)), (1, .ref (X.2.2.2.1 t1)), (2, .int v6)] [] M7 := by
      intro fu8
      induction fu8 with
      | zero =>
        intro v6 M7 h
        rw [f_Text_become_L29] at h
        cases h
      | succ fu8 ih8 =>
        intro v6 M7 h
        rw [f_Text_become_L29] at h
        refine g_iload_n (pn := 30) K rfl 2 rfl dX7_become_29 ?_
        refine g_iconst (pn := 31) (v := 3) K rfl ic_3 dX7_become_30 ?_
        refine g_icmp_gt (tgt := 52) (pn := 34) K rfl (by decide) dX7_become_31 h (fun h => ?_) (fun h => ?_)
        · refine g_sub [0, 1] rfl ?_
          exact hj4 _ h
        · refine g_aload_n (pn := 35) K rfl 0 rfl dX7_become_34 ?_
          refine g_getr (pn := 38) (j := (t + 2)) K rfl fl_X7_15 (lxText ht) rfl dX7_become_35 ?_
          refine g_iload_n (pn := 39) K rfl 2 rfl dX7_become_38 ?_
          refine g_aload_n (pn := 40) K rfl 1 rfl dX7_become_39 ?_
          refine g_getr (pn := 43) (j := (t1 + 2)) K rfl fl_X7_15 (lxText ht1) rfl dX7_become_40 ?_
          refine g_iload_n (pn := 44) K rfl 2 rfl dX7_become_43 ?_
          refine g_iald (pn := 45) K rfl (lxText2 ht1) dX7_become_44 h (fun h => ?_)
          refine g_iast (pn := 46) K rfl (lxText2 ht) dX7_become_45 h (fun M9 h => ?_)
          obtain ⟨v10, ev10, h⟩ := bnd_e h
          refine g_iinc (pn := 49) (v := v10) (lv' := [(2, .int v10), (0, .ref (X.2.2.2.1 t)), (1, .ref (X.2.2.2.1 t1))]) K rfl 2 rfl ii_1 ev10 dX7_become_46 (Nat.le_of_ble_eq_true rfl) rfl ?_
          refine g_goto (tgt := 29) K (by decide) dX7_become_49 ?_
          refine g_sub [1, 2, 0] rfl ?_
          exact ih8 _ _ h
    refine g_sub [1, 2, 0] rfl ?_
    exact LP29 FU _ _ h
  have LP2 : ∀ (fu13 : Nat) (v11 : Int32) (M12 : Mem), f_Text_become_L2 t t1 j2 fu13 v11 M12 = some M' → G layX X Γ 3 (QM layX X Γ none M') 2 [(0, .ref (X.2.2.2.1 t)), (1, .ref (X.2.2.2.1 t1)), (2, .int v11)] [] M12 := by
    intro fu13
    induction fu13 with
    | zero =>
      intro v11 M12 h
      rw [f_Text_become_L2] at h
      cases h
    | succ fu13 ih13 =>
      intro v11 M12 h
      rw [f_Text_become_L2] at h
      refine g_iload_n (pn := 3) K rfl 2 rfl dX7_become_2 ?_
      refine g_sipush (pn := 6) (v := 160) K rfl sp_160 dX7_become_3 ?_
      refine g_icmp_ge (tgt := 27) (pn := 9) K rfl (by decide) dX7_become_6 h (fun h => ?_) (fun h => ?_)
      · refine g_sub [0, 1] rfl ?_
        exact hj2 _ h
      · refine g_aload_n (pn := 10) K rfl 0 rfl dX7_become_9 ?_
        refine g_getr (pn := 13) (j := (t + 1)) K rfl fl_X7_9 (lxText ht) rfl dX7_become_10 ?_
        refine g_iload_n (pn := 14) K rfl 2 rfl dX7_become_13 ?_
        refine g_aload_n (pn := 15) K rfl 1 rfl dX7_become_14 ?_
        refine g_getr (pn := 18) (j := (t1 + 1)) K rfl fl_X7_9 (lxText ht1) rfl dX7_become_15 ?_
        refine g_iload_n (pn := 19) K rfl 2 rfl dX7_become_18 ?_
        refine g_iald (pn := 20) K rfl (lxText1 ht1) dX7_become_19 h (fun h => ?_)
        refine g_iast (pn := 21) K rfl (lxText1 ht) dX7_become_20 h (fun M14 h => ?_)
        obtain ⟨v15, ev15, h⟩ := bnd_e h
        refine g_iinc (pn := 24) (v := v15) (lv' := [(2, .int v15), (0, .ref (X.2.2.2.1 t)), (1, .ref (X.2.2.2.1 t1))]) K rfl 2 rfl ii_1 ev15 dX7_become_21 (Nat.le_of_ble_eq_true rfl) rfl ?_
        refine g_goto (tgt := 2) K (by decide) dX7_become_24 ?_
        refine g_sub [1, 2, 0] rfl ?_
        exact ih13 _ _ h
  refine g_sub [1, 2, 0] rfl ?_
  exact LP2 FU _ _ h
end
section
/-! printed by gen1.py -/
theorem dJ3_checkIndex_8e157_0 : decode cJ3_checkIndex_8e157 0 = .ok (.iload_n 0, 1) := by decide +kernel
theorem dJ3_checkIndex_8e157_1 : decode cJ3_checkIndex_8e157 1 = .ok (.ifCond .lt 8, 3) := by decide +kernel
theorem dJ3_checkIndex_8e157_4 : decode cJ3_checkIndex_8e157 4 = .ok (.iload_n 0, 1) := by decide +kernel
theorem dJ3_checkIndex_8e157_5 : decode cJ3_checkIndex_8e157 5 = .ok (.iload_n 1, 1) := by decide +kernel
theorem dJ3_checkIndex_8e157_6 : decode cJ3_checkIndex_8e157 6 = .ok (.if_icmp .lt 10, 3) := by decide +kernel
theorem dJ3_checkIndex_8e157_16 : decode cJ3_checkIndex_8e157 16 = .ok (.iload_n 0, 1) := by decide +kernel
theorem dJ3_checkIndex_8e157_17 : decode cJ3_checkIndex_8e157 17 = .ok (.ireturn, 1) := by decide +kernel
theorem dJ0_checkIndex_df160_0 : decode cJ0_checkIndex_df160 0 = .ok (.iload_n 0, 1) := by decide +kernel
theorem dJ0_checkIndex_df160_1 : decode cJ0_checkIndex_df160 1 = .ok (.iload_n 1, 1) := by decide +kernel
theorem dJ0_checkIndex_df160_2 : decode cJ0_checkIndex_df160 2 = .ok (.getstatic 1053, 3) := by decide +kernel
theorem dJ0_checkIndex_df160_5 : decode cJ0_checkIndex_df160 5 = .ok (.invokestatic 1059, 3) := by decide +kernel
theorem dJ0_checkIndex_df160_8 : decode cJ0_checkIndex_df160 8 = .ok (.pop, 1) := by decide +kernel
theorem dJ0_checkIndex_df160_9 : decode cJ0_checkIndex_df160 9 = .ok (.return_, 1) := by decide +kernel
theorem dJ0_coder_7d493_0 : decode cJ0_coder_7d493 0 = .ok (.getstatic 38, 3) := by decide +kernel
theorem dJ0_coder_7d493_3 : decode cJ0_coder_7d493 3 = .ok (.ifCond .eq 10, 3) := by decide +kernel
theorem dJ0_coder_7d493_6 : decode cJ0_coder_7d493 6 = .ok (.aload_n 0, 1) := by decide +kernel
theorem dJ0_coder_7d493_7 : decode cJ0_coder_7d493 7 = .ok (.getfield 15, 3) := by decide +kernel
theorem dJ0_coder_7d493_10 : decode cJ0_coder_7d493 10 = .ok (.goto 4, 3) := by decide +kernel
theorem dJ0_coder_7d493_14 : decode cJ0_coder_7d493 14 = .ok (.ireturn, 1) := by decide +kernel
theorem dJ0_isLatin1_aae02_0 : decode cJ0_isLatin1_aae02 0 = .ok (.getstatic 38, 3) := by decide +kernel
theorem dJ0_isLatin1_aae02_3 : decode cJ0_isLatin1_aae02 3 = .ok (.ifCond .eq 14, 3) := by decide +kernel
theorem dJ0_isLatin1_aae02_6 : decode cJ0_isLatin1_aae02 6 = .ok (.aload_n 0, 1) := by decide +kernel
theorem dJ0_isLatin1_aae02_7 : decode cJ0_isLatin1_aae02 7 = .ok (.getfield 15, 3) := by decide +kernel
theorem dJ0_isLatin1_aae02_10 : decode cJ0_isLatin1_aae02 10 = .ok (.ifCond .ne 7, 3) := by decide +kernel
theorem dJ0_isLatin1_aae02_13 : decode cJ0_isLatin1_aae02 13 = .ok (.iconst 1, 1) := by decide +kernel
theorem dJ0_isLatin1_aae02_14 : decode cJ0_isLatin1_aae02 14 = .ok (.goto 4, 3) := by decide +kernel
theorem dJ0_isLatin1_aae02_18 : decode cJ0_isLatin1_aae02 18 = .ok (.ireturn, 1) := by decide +kernel
theorem dJ0_length_8abf5_0 : decode cJ0_length_8abf5 0 = .ok (.aload_n 0, 1) := by decide +kernel
theorem dJ0_length_8abf5_1 : decode cJ0_length_8abf5 1 = .ok (.getfield 9, 3) := by decide +kernel
theorem dJ0_length_8abf5_4 : decode cJ0_length_8abf5 4 = .ok (.arraylength, 1) := by decide +kernel
theorem dJ0_length_8abf5_5 : decode cJ0_length_8abf5 5 = .ok (.aload_n 0, 1) := by decide +kernel
theorem dJ0_length_8abf5_6 : decode cJ0_length_8abf5 6 = .ok (.invokevirtual 335, 3) := by decide +kernel
theorem dJ0_length_8abf5_9 : decode cJ0_length_8abf5 9 = .ok (.ishr, 1) := by decide +kernel
theorem dJ0_length_8abf5_10 : decode cJ0_length_8abf5 10 = .ok (.ireturn, 1) := by decide +kernel
theorem dJ1_charAt_3b067_0 : decode cJ1_charAt_3b067 0 = .ok (.iload_n 1, 1) := by decide +kernel
theorem dJ1_charAt_3b067_1 : decode cJ1_charAt_3b067 1 = .ok (.aload_n 0, 1) := by decide +kernel
theorem dJ1_charAt_3b067_2 : decode cJ1_charAt_3b067 2 = .ok (.arraylength, 1) := by decide +kernel
theorem dJ1_charAt_3b067_3 : decode cJ1_charAt_3b067 3 = .ok (.invokestatic 9, 3) := by decide +kernel
theorem dJ1_charAt_3b067_6 : decode cJ1_charAt_3b067 6 = .ok (.aload_n 0, 1) := by decide +kernel
theorem dJ1_charAt_3b067_7 : decode cJ1_charAt_3b067 7 = .ok (.iload_n 1, 1) := by decide +kernel
theorem dJ1_charAt_3b067_8 : decode cJ1_charAt_3b067 8 = .ok (.baload, 1) := by decide +kernel
theorem dJ1_charAt_3b067_9 : decode cJ1_charAt_3b067 9 = .ok (.sipush 255, 3) := by decide +kernel
theorem dJ1_charAt_3b067_12 : decode cJ1_charAt_3b067 12 = .ok (.iand, 1) := by decide +kernel
theorem dJ1_charAt_3b067_13 : decode cJ1_charAt_3b067 13 = .ok (.i2c, 1) := by decide +kernel
theorem dJ1_charAt_3b067_14 : decode cJ1_charAt_3b067 14 = .ok (.ireturn, 1) := by decide +kernel
theorem dJ0_charAt_5068e_0 : decode cJ0_charAt_5068e 0 = .ok (.aload_n 0, 1) := by decide +kernel
theorem dJ0_charAt_5068e_1 : decode cJ0_charAt_5068e 1 = .ok (.invokevirtual 492, 3) := by decide +kernel
theorem dJ0_charAt_5068e_4 : decode cJ0_charAt_5068e 4 = .ok (.ifCond .eq 12, 3) := by decide +kernel
theorem dJ0_charAt_5068e_7 : decode cJ0_charAt_5068e 7 = .ok (.aload_n 0, 1) := by decide +kernel
theorem dJ0_charAt_5068e_8 : decode cJ0_charAt_5068e 8 = .ok (.getfield 9, 3) := by decide +kernel
theorem dJ0_charAt_5068e_11 : decode cJ0_charAt_5068e 11 = .ok (.iload_n 1, 1) := by decide +kernel
theorem dJ0_charAt_5068e_12 : decode cJ0_charAt_5068e 12 = .ok (.invokestatic 495, 3) := by decide +kernel
theorem dJ0_charAt_5068e_15 : decode cJ0_charAt_5068e 15 = .ok (.ireturn, 1) := by decide +kernel
theorem dJ1_canEncode_9a6ad_0 : decode cJ1_canEncode_9a6ad 0 = .ok (.iload_n 0, 1) := by decide +kernel
theorem dJ1_canEncode_9a6ad_1 : decode cJ1_canEncode_9a6ad 1 = .ok (.ifCond .lt 14, 3) := by decide +kernel
theorem dJ1_canEncode_9a6ad_4 : decode cJ1_canEncode_9a6ad 4 = .ok (.iload_n 0, 1) := by decide +kernel
theorem dJ1_canEncode_9a6ad_5 : decode cJ1_canEncode_9a6ad 5 = .ok (.sipush 255, 3) := by decide +kernel
theorem dJ1_canEncode_9a6ad_8 : decode cJ1_canEncode_9a6ad 8 = .ok (.if_icmp .gt 7, 3) := by decide +kernel
theorem dJ1_canEncode_9a6ad_11 : decode cJ1_canEncode_9a6ad 11 = .ok (.iconst 1, 1) := by decide +kernel
theorem dJ1_canEncode_9a6ad_12 : decode cJ1_canEncode_9a6ad 12 = .ok (.goto 4, 3) := by decide +kernel
theorem dJ1_canEncode_9a6ad_15 : decode cJ1_canEncode_9a6ad 15 = .ok (.iconst 0, 1) := by decide +kernel
theorem dJ1_canEncode_9a6ad_16 : decode cJ1_canEncode_9a6ad 16 = .ok (.ireturn, 1) := by decide +kernel
theorem dJ1_indexOfChar_4cfef_0 : decode cJ1_indexOfChar_4cfef 0 = .ok (.iload_n 1, 1) := by decide +kernel
theorem dJ1_indexOfChar_4cfef_1 : decode cJ1_indexOfChar_4cfef 1 = .ok (.i2b, 1) := by decide +kernel
theorem dJ1_indexOfChar_4cfef_2 : decode cJ1_indexOfChar_4cfef 2 = .ok (.istore 4, 2) := by decide +kernel
theorem dJ1_indexOfChar_4cfef_4 : decode cJ1_indexOfChar_4cfef 4 = .ok (.iload_n 2, 1) := by decide +kernel
theorem dJ1_indexOfChar_4cfef_5 : decode cJ1_indexOfChar_4cfef 5 = .ok (.istore 5, 2) := by decide +kernel
theorem dJ1_indexOfChar_4cfef_7 : decode cJ1_indexOfChar_4cfef 7 = .ok (.iload 5, 2) := by decide +kernel
theorem dJ1_indexOfChar_4cfef_9 : decode cJ1_indexOfChar_4cfef 9 = .ok (.iload_n 3, 1) := by decide +kernel
theorem dJ1_indexOfChar_4cfef_10 : decode cJ1_indexOfChar_4cfef 10 = .ok (.if_icmp .ge 21, 3) := by decide +kernel
theorem dJ1_indexOfChar_4cfef_13 : decode cJ1_indexOfChar_4cfef 13 = .ok (.aload_n 0, 1) := by decide +kernel
theorem dJ1_indexOfChar_4cfef_14 : decode cJ1_indexOfChar_4cfef 14 = .ok (.iload 5, 2) := by decide +kernel
theorem dJ1_indexOfChar_4cfef_16 : decode cJ1_indexOfChar_4cfef 16 = .ok (.baload, 1) := by decide +kernel
theorem dJ1_indexOfChar_4cfef_17 : decode cJ1_indexOfChar_4cfef 17 = .ok (.iload 4, 2) := by decide +kernel
theorem dJ1_indexOfChar_4cfef_19 : decode cJ1_indexOfChar_4cfef 19 = .ok (.if_icmp .ne 6, 3) := by decide +kernel
theorem dJ1_indexOfChar_4cfef_22 : decode cJ1_indexOfChar_4cfef 22 = .ok (.iload 5, 2) := by decide +kernel
theorem dJ1_indexOfChar_4cfef_24 : decode cJ1_indexOfChar_4cfef 24 = .ok (.ireturn, 1) := by decide +kernel
theorem dJ1_indexOfChar_4cfef_25 : decode cJ1_indexOfChar_4cfef 25 = .ok (.iinc 5 1, 3) := by decide +kernel
theorem dJ1_indexOfChar_4cfef_28 : decode cJ1_indexOfChar_4cfef 28 = .ok (.goto (-21), 3) := by decide +kernel
theorem dJ1_indexOfChar_4cfef_31 : decode cJ1_indexOfChar_4cfef 31 = .ok (.iconst (-1), 1) := by decide +kernel
theorem dJ1_indexOfChar_4cfef_32 : decode cJ1_indexOfChar_4cfef 32 = .ok (.ireturn, 1) := by decide +kernel
theorem dJ1_indexOf_4cfef_0 : decode cJ1_indexOf_4cfef 0 = .ok (.iload_n 1, 1) := by decide +kernel
theorem dJ1_indexOf_4cfef_1 : decode cJ1_indexOf_4cfef 1 = .ok (.invokestatic 88, 3) := by decide +kernel
theorem dJ1_indexOf_4cfef_4 : decode cJ1_indexOf_4cfef 4 = .ok (.ifCond .ne 5, 3) := by decide +kernel
theorem dJ1_indexOf_4cfef_7 : decode cJ1_indexOf_4cfef 7 = .ok (.iconst (-1), 1) := by decide +kernel
theorem dJ1_indexOf_4cfef_8 : decode cJ1_indexOf_4cfef 8 = .ok (.ireturn, 1) := by decide +kernel
theorem dJ1_indexOf_4cfef_9 : decode cJ1_indexOf_4cfef 9 = .ok (.iload_n 2, 1) := by decide +kernel
theorem dJ1_indexOf_4cfef_10 : decode cJ1_indexOf_4cfef 10 = .ok (.iconst 0, 1) := by decide +kernel
theorem dJ1_indexOf_4cfef_11 : decode cJ1_indexOf_4cfef 11 = .ok (.invokestatic 92, 3) := by decide +kernel
theorem dJ1_indexOf_4cfef_14 : decode cJ1_indexOf_4cfef 14 = .ok (.istore_n 2, 1) := by decide +kernel
theorem dJ1_indexOf_4cfef_15 : decode cJ1_indexOf_4cfef 15 = .ok (.iload_n 3, 1) := by decide +kernel
theorem dJ1_indexOf_4cfef_16 : decode cJ1_indexOf_4cfef 16 = .ok (.aload_n 0, 1) := by decide +kernel
theorem dJ1_indexOf_4cfef_17 : decode cJ1_indexOf_4cfef 17 = .ok (.arraylength, 1) := by decide +kernel
theorem dJ1_indexOf_4cfef_18 : decode cJ1_indexOf_4cfef 18 = .ok (.invokestatic 38, 3) := by decide +kernel
theorem dJ1_indexOf_4cfef_21 : decode cJ1_indexOf_4cfef 21 = .ok (.istore_n 3, 1) := by decide +kernel
theorem dJ1_indexOf_4cfef_22 : decode cJ1_indexOf_4cfef 22 = .ok (.iload_n 2, 1) := by decide +kernel
theorem dJ1_indexOf_4cfef_23 : decode cJ1_indexOf_4cfef 23 = .ok (.iload_n 3, 1) := by decide +kernel
theorem dJ1_indexOf_4cfef_24 : decode cJ1_indexOf_4cfef 24 = .ok (.if_icmp .lt 5, 3) := by decide +kernel
theorem dJ1_indexOf_4cfef_27 : decode cJ1_indexOf_4cfef 27 = .ok (.iconst (-1), 1) := by decide +kernel
theorem dJ1_indexOf_4cfef_28 : decode cJ1_indexOf_4cfef 28 = .ok (.ireturn, 1) := by decide +kernel
theorem dJ1_indexOf_4cfef_29 : decode cJ1_indexOf_4cfef 29 = .ok (.aload_n 0, 1) := by decide +kernel
theorem dJ1_indexOf_4cfef_30 : decode cJ1_indexOf_4cfef 30 = .ok (.iload_n 1, 1) := by decide +kernel
theorem dJ1_indexOf_4cfef_31 : decode cJ1_indexOf_4cfef 31 = .ok (.iload_n 2, 1) := by decide +kernel
theorem dJ1_indexOf_4cfef_32 : decode cJ1_indexOf_4cfef 32 = .ok (.iload_n 3, 1) := by decide +kernel
theorem dJ1_indexOf_4cfef_33 : decode cJ1_indexOf_4cfef 33 = .ok (.invokestatic 95, 3) := by decide +kernel
theorem dJ1_indexOf_4cfef_36 : decode cJ1_indexOf_4cfef 36 = .ok (.ireturn, 1) := by decide +kernel
theorem dJ0_indexOf_7cf53_0 : decode cJ0_indexOf_7cf53 0 = .ok (.aload_n 0, 1) := by decide +kernel
theorem dJ0_indexOf_7cf53_1 : decode cJ0_indexOf_7cf53 1 = .ok (.invokevirtual 492, 3) := by decide +kernel
theorem dJ0_indexOf_7cf53_4 : decode cJ0_indexOf_7cf53 4 = .ok (.ifCond .eq 19, 3) := by decide +kernel
theorem dJ0_indexOf_7cf53_7 : decode cJ0_indexOf_7cf53 7 = .ok (.aload_n 0, 1) := by decide +kernel
theorem dJ0_indexOf_7cf53_8 : decode cJ0_indexOf_7cf53 8 = .ok (.getfield 9, 3) := by decide +kernel
theorem dJ0_indexOf_7cf53_11 : decode cJ0_indexOf_7cf53 11 = .ok (.iload_n 1, 1) := by decide +kernel
theorem dJ0_indexOf_7cf53_12 : decode cJ0_indexOf_7cf53 12 = .ok (.iload_n 2, 1) := by decide +kernel
theorem dJ0_indexOf_7cf53_13 : decode cJ0_indexOf_7cf53 13 = .ok (.aload_n 0, 1) := by decide +kernel
theorem dJ0_indexOf_7cf53_14 : decode cJ0_indexOf_7cf53 14 = .ok (.invokevirtual 505, 3) := by decide +kernel
theorem dJ0_indexOf_7cf53_17 : decode cJ0_indexOf_7cf53 17 = .ok (.invokestatic 637, 3) := by decide +kernel
theorem dJ0_indexOf_7cf53_20 : decode cJ0_indexOf_7cf53 20 = .ok (.goto 16, 3) := by decide +kernel
theorem dJ0_indexOf_7cf53_36 : decode cJ0_indexOf_7cf53 36 = .ok (.ireturn, 1) := by decide +kernel
theorem dJ0_indexOf_0f7a4_0 : decode cJ0_indexOf_0f7a4 0 = .ok (.aload_n 0, 1) := by decide +kernel
theorem dJ0_indexOf_0f7a4_1 : decode cJ0_indexOf_0f7a4 1 = .ok (.iload_n 1, 1) := by decide +kernel
theorem dJ0_indexOf_0f7a4_2 : decode cJ0_indexOf_0f7a4 2 = .ok (.iconst 0, 1) := by decide +kernel
theorem dJ0_indexOf_0f7a4_3 : decode cJ0_indexOf_0f7a4 3 = .ok (.invokevirtual 633, 3) := by decide +kernel
theorem dJ0_indexOf_0f7a4_6 : decode cJ0_indexOf_0f7a4 6 = .ok (.ireturn, 1) := by decide +kernel
theorem dJ6_bitCount_0f7a4_0 : decode cJ6_bitCount_0f7a4 0 = .ok (.iload_n 0, 1) := by decide +kernel
theorem dJ6_bitCount_0f7a4_1 : decode cJ6_bitCount_0f7a4 1 = .ok (.iload_n 0, 1) := by decide +kernel
theorem dJ6_bitCount_0f7a4_2 : decode cJ6_bitCount_0f7a4 2 = .ok (.iconst 1, 1) := by decide +kernel
theorem dJ6_bitCount_0f7a4_3 : decode cJ6_bitCount_0f7a4 3 = .ok (.iushr, 1) := by decide +kernel
theorem dJ6_bitCount_0f7a4_4 : decode cJ6_bitCount_0f7a4 4 = .ok (.ldc_w 265, 3) := by decide +kernel
theorem dJ6_bitCount_0f7a4_7 : decode cJ6_bitCount_0f7a4 7 = .ok (.iand, 1) := by decide +kernel
theorem dJ6_bitCount_0f7a4_8 : decode cJ6_bitCount_0f7a4 8 = .ok (.isub, 1) := by decide +kernel
theorem dJ6_bitCount_0f7a4_9 : decode cJ6_bitCount_0f7a4 9 = .ok (.istore_n 0, 1) := by decide +kernel
theorem dJ6_bitCount_0f7a4_10 : decode cJ6_bitCount_0f7a4 10 = .ok (.iload_n 0, 1) := by decide +kernel
theorem dJ6_bitCount_0f7a4_11 : decode cJ6_bitCount_0f7a4 11 = .ok (.ldc_w 266, 3) := by decide +kernel
theorem dJ6_bitCount_0f7a4_14 : decode cJ6_bitCount_0f7a4 14 = .ok (.iand, 1) := by decide +kernel
theorem dJ6_bitCount_0f7a4_15 : decode cJ6_bitCount_0f7a4 15 = .ok (.iload_n 0, 1) := by decide +kernel
theorem dJ6_bitCount_0f7a4_16 : decode cJ6_bitCount_0f7a4 16 = .ok (.iconst 2, 1) := by decide +kernel
theorem dJ6_bitCount_0f7a4_17 : decode cJ6_bitCount_0f7a4 17 = .ok (.iushr, 1) := by decide +kernel
theorem dJ6_bitCount_0f7a4_18 : decode cJ6_bitCount_0f7a4 18 = .ok (.ldc_w 266, 3) := by decide +kernel
theorem dJ6_bitCount_0f7a4_21 : decode cJ6_bitCount_0f7a4 21 = .ok (.iand, 1) := by decide +kernel
theorem dJ6_bitCount_0f7a4_22 : decode cJ6_bitCount_0f7a4 22 = .ok (.iadd, 1) := by decide +kernel
theorem dJ6_bitCount_0f7a4_23 : decode cJ6_bitCount_0f7a4 23 = .ok (.istore_n 0, 1) := by decide +kernel
theorem dJ6_bitCount_0f7a4_24 : decode cJ6_bitCount_0f7a4 24 = .ok (.iload_n 0, 1) := by decide +kernel
theorem dJ6_bitCount_0f7a4_25 : decode cJ6_bitCount_0f7a4 25 = .ok (.iload_n 0, 1) := by decide +kernel
theorem dJ6_bitCount_0f7a4_26 : decode cJ6_bitCount_0f7a4 26 = .ok (.iconst 4, 1) := by decide +kernel
theorem dJ6_bitCount_0f7a4_27 : decode cJ6_bitCount_0f7a4 27 = .ok (.iushr, 1) := by decide +kernel
theorem dJ6_bitCount_0f7a4_28 : decode cJ6_bitCount_0f7a4 28 = .ok (.iadd, 1) := by decide +kernel
theorem dJ6_bitCount_0f7a4_29 : decode cJ6_bitCount_0f7a4 29 = .ok (.ldc_w 267, 3) := by decide +kernel
theorem dJ6_bitCount_0f7a4_32 : decode cJ6_bitCount_0f7a4 32 = .ok (.iand, 1) := by decide +kernel
theorem dJ6_bitCount_0f7a4_33 : decode cJ6_bitCount_0f7a4 33 = .ok (.istore_n 0, 1) := by decide +kernel
theorem dJ6_bitCount_0f7a4_34 : decode cJ6_bitCount_0f7a4 34 = .ok (.iload_n 0, 1) := by decide +kernel
theorem dJ6_bitCount_0f7a4_35 : decode cJ6_bitCount_0f7a4 35 = .ok (.iload_n 0, 1) := by decide +kernel
theorem dJ6_bitCount_0f7a4_36 : decode cJ6_bitCount_0f7a4 36 = .ok (.bipush 8, 2) := by decide +kernel
theorem dJ6_bitCount_0f7a4_38 : decode cJ6_bitCount_0f7a4 38 = .ok (.iushr, 1) := by decide +kernel
theorem dJ6_bitCount_0f7a4_39 : decode cJ6_bitCount_0f7a4 39 = .ok (.iadd, 1) := by decide +kernel
theorem dJ6_bitCount_0f7a4_40 : decode cJ6_bitCount_0f7a4 40 = .ok (.istore_n 0, 1) := by decide +kernel
theorem dJ6_bitCount_0f7a4_41 : decode cJ6_bitCount_0f7a4 41 = .ok (.iload_n 0, 1) := by decide +kernel
theorem dJ6_bitCount_0f7a4_42 : decode cJ6_bitCount_0f7a4 42 = .ok (.iload_n 0, 1) := by decide +kernel
theorem dJ6_bitCount_0f7a4_43 : decode cJ6_bitCount_0f7a4 43 = .ok (.bipush 16, 2) := by decide +kernel
theorem dJ6_bitCount_0f7a4_45 : decode cJ6_bitCount_0f7a4 45 = .ok (.iushr, 1) := by decide +kernel
theorem dJ6_bitCount_0f7a4_46 : decode cJ6_bitCount_0f7a4 46 = .ok (.iadd, 1) := by decide +kernel
theorem dJ6_bitCount_0f7a4_47 : decode cJ6_bitCount_0f7a4 47 = .ok (.istore_n 0, 1) := by decide +kernel
theorem dJ6_bitCount_0f7a4_48 : decode cJ6_bitCount_0f7a4 48 = .ok (.iload_n 0, 1) := by decide +kernel
theorem dJ6_bitCount_0f7a4_49 : decode cJ6_bitCount_0f7a4 49 = .ok (.bipush 63, 2) := by decide +kernel
theorem dJ6_bitCount_0f7a4_51 : decode cJ6_bitCount_0f7a4 51 = .ok (.iand, 1) := by decide +kernel
theorem dJ6_bitCount_0f7a4_52 : decode cJ6_bitCount_0f7a4 52 = .ok (.ireturn, 1) := by decide +kernel
def f_JP_checkIndex3 (a1 : Int32) (a2 : Int32) : Option Int32 :=
if a1 < 0 then
(none)
else
(if a1 < a2 then
(some a1)
else
(none))
def f_JS_checkIndex2 (a1 : Int32) (a2 : Int32) : Option Unit :=
ob (f_JP_checkIndex3 a1 a2) fun (v3 : Int32) =>
some ()
def f_JS_coder0 (j : Nat) : Option Int32 :=
some 0
def f_JS_isLatin10 (j : Nat) : Option Bool :=
some true
def f_JS_length0 (j : Nat) : Option Int32 :=
ob (f_JS_coder0 j) fun (v2 : Int32) =>
some ((nI (lenS.getD j 0)) >>> (0 &&& 31))
def f_JL_charAt2 (j1 : Nat) (a2 : Int32) : Option Int32 :=
ob (f_JS_checkIndex2 a2 (nI (lenS.getD j1 0))) fun (v2 : Unit) =>
ck a2 (lenS.getD j1 0) <|
some (((((bytS.getD j1 []).getD a2.toNatClampNeg 0) &&& 255).toUInt32 % 65536).toInt32)
theorem charAt_nar {j : Nat} {i r : Int32} (h : f_JL_charAt2 j i = some r) : narrow .char (.int r) = .int r := by
  unfold f_JL_charAt2 at h
  obtain ⟨u, -, h⟩ := ob_e h
  rw [← oi (ck_e h).2]
  exact pk_nc _
def f_JS_charAt1 (j : Nat) (a1 : Int32) : Option Int32 :=
ob (f_JS_isLatin10 j) fun (v2 : Bool) =>
ob (f_JL_charAt2 j a1) fun (v4 : Int32) =>
some v4
def f_JL_canEncode1 (a1 : Int32) : Option Bool :=
if a1 < 0 then
(some false)
else
(if 255 < a1 then
(some false)
else
(some true))
def f_JL_indexOfChar4_L7 (j1 : Nat) (a4 : Int32) (v1 : Int32) (j3 : Unit → Option Int32) : Nat → Int32 → Option Int32
  | 0, _ => none
  | fu5 + 1, v4 =>
    if a4 ≤ v4 then
    (j3 ())
    else
    (ck v4 (lenS.getD j1 0) <|
    if ((bytS.getD j1 []).getD v4.toNatClampNeg 0) = v1 then
    (some v4)
    else
    (bnd (v4 + 1) fun (v6 : Int32) =>
    f_JL_indexOfChar4_L7 j1 a4 v1 j3 fu5 v6))
def f_JL_indexOfChar4 (j1 : Nat) (a2 : Int32) (a3 : Int32) (a4 : Int32) : Option Int32 :=
bnd (a2.toInt8.toInt32) fun (v1 : Int32) =>
jp (fun (u2 : Unit) =>
some (-1)) fun j3 =>
f_JL_indexOfChar4_L7 j1 a4 v1 j3 FU a3
def f_JL_indexOf4 (j1 : Nat) (a2 : Int32) (a3 : Int32) (a4 : Int32) : Option Int32 :=
ob (f_JL_canEncode1 a2) fun (v2 : Bool) =>
if v2 = true then
(bnd ((imax a3 0)) fun (v3 : Int32) =>
bnd ((imin a4 (nI (lenS.getD j1 0)))) fun (v4 : Int32) =>
if v3 < v4 then
(ob (f_JL_indexOfChar4 j1 a2 v3 v4) fun (v6 : Int32) =>
some v6)
else
(some (-1)))
else
(some (-1))
def f_JS_indexOf2 (j : Nat) (a1 : Int32) (a2 : Int32) : Option Int32 :=
ob (f_JS_isLatin10 j) fun (v2 : Bool) =>
ob (f_JS_length0 j) fun (v4 : Int32) =>
ob (f_JL_indexOf4 j a1 a2 v4) fun (v6 : Int32) =>
some v6
def f_JS_indexOf1 (j : Nat) (a1 : Int32) : Option Int32 :=
ob (f_JS_indexOf2 j a1 0) fun (v2 : Int32) =>
some v2
def f_JI_bitCount1 (a1 : Int32) : Option Int32 :=
bnd ((a1 - ((a1.toUInt32 >>> ((1 : Int32).toUInt32 &&& Int32.toUInt32 31)).toInt32 &&& 1431655765))) fun (v1 : Int32) =>
bnd (((v1 &&& 858993459) + ((v1.toUInt32 >>> ((2 : Int32).toUInt32 &&& Int32.toUInt32 31)).toInt32 &&& 858993459))) fun (v2 : Int32) =>
bnd (((v2 + (v2.toUInt32 >>> ((4 : Int32).toUInt32 &&& Int32.toUInt32 31)).toInt32) &&& 252645135)) fun (v3 : Int32) =>
bnd ((v3 + (v3.toUInt32 >>> ((8 : Int32).toUInt32 &&& Int32.toUInt32 31)).toInt32)) fun (v4 : Int32) =>
bnd ((v4 + (v4.toUInt32 >>> ((16 : Int32).toUInt32 &&& Int32.toUInt32 31)).toInt32)) fun (v5 : Int32) =>
some (v5 &&& 63)
set_option maxHeartbeats 4000000 in
set_option maxRecDepth 20000 in
theorem w_f_JP_checkIndex3 {X : XT} {M : Mem} {a1 : Int32} {a2 : Int32} {r : Int32} {o3 : Value} (ho3 : o3 = .null ∨ ∃ t : Nat, o3 = .ref t)  (h : f_JP_checkIndex3 a1 a2 = some r) : CT layX X 0 yJ3_checkIndex_8e157 cJ3_checkIndex_8e157 3 (some .int) [.int a1, .int a2, o3] M M (some (.int r)) := by
  refine CT.of rfl (by rcases ho3 with rfl | ⟨t, rfl⟩ <;> exact Nat.le_of_ble_eq_true rfl) (lv := [(0, .int a1), (1, .int a2), (2, o3)]) rfl (fun Γ K => ?_)
  have K : Kx layX X Γ RJ3 cJ3_checkIndex_8e157 3 0 (some .int) := K
  unfold f_JP_checkIndex3 at h
  refine g_iload_n (pn := 1) K rfl 0 rfl dJ3_checkIndex_8e157_0 ?_
  refine g_if_lt (tgt := 9) (pn := 4) K rfl (by decide) dJ3_checkIndex_8e157_1 h (fun h => ?_) (fun h => ?_)
  · nomatch h
  · refine g_iload_n (pn := 5) K rfl 0 rfl dJ3_checkIndex_8e157_4 ?_
    refine g_iload_n (pn := 6) K rfl 1 rfl dJ3_checkIndex_8e157_5 ?_
    refine g_icmp_lt (tgt := 16) (pn := 9) K rfl (by decide) dJ3_checkIndex_8e157_6 h (fun h => ?_) (fun h => ?_)
    · refine g_iload_n (pn := 17) K rfl 0 rfl dJ3_checkIndex_8e157_16 ?_
      exact g_iret K dJ3_checkIndex_8e157_17 (oi h) rfl
    · nomatch h
set_option maxHeartbeats 4000000 in
set_option maxRecDepth 20000 in
theorem w_f_JS_checkIndex2 {X : XT} {M : Mem} {a1 : Int32} {a2 : Int32}    (h : f_JS_checkIndex2 a1 a2 = some ()) : CT layX X 1 yJ0_checkIndex_df160 cJ0_checkIndex_df160 2 none [.int a1, .int a2] M M none := by
  refine CT.of rfl (Nat.le_of_ble_eq_true rfl) (lv := [(0, .int a1), (1, .int a2)]) rfl (fun Γ K => ?_)
  have K : Kx layX X Γ RJ0 cJ0_checkIndex_df160 2 1 none := K
  unfold f_JS_checkIndex2 at h
  refine g_iload_n (pn := 1) K rfl 0 rfl dJ0_checkIndex_df160_0 ?_
  refine g_iload_n (pn := 2) K rfl 1 rfl dJ0_checkIndex_df160_1 ?_
  refine g_siobe (pn := 5) K rfl fs_J0_1053 dJ0_checkIndex_df160_2 (fun o1 ho1 => ?_)
  obtain ⟨v3, hc2, h⟩ := ob_e h
  refine g_callS1 (pn := 8) (As := [.int a1, .int a2, o1]) (rest := []) K rfl (d' := 0) (Nat.le_of_ble_eq_true rfl) ms_J0_1059 (w_f_JP_checkIndex3 ho1 hc2) rfl rfl (Nat.le_of_ble_eq_true rfl) dJ0_checkIndex_df160_5 ?_
  refine g_pop (pn := 9) K rfl rfl dJ0_checkIndex_df160_8 ?_
  exact g_vret K dJ0_checkIndex_df160_9 rfl
set_option maxHeartbeats 4000000 in
set_option maxRecDepth 20000 in
theorem w_f_JS_coder0 {X : XT} {M : Mem} {j : Nat} {r : Int32} (hj : j < nS)  (h : f_JS_coder0 j = some r) : CT layX X 0 yJ0_coder_7d493 cJ0_coder_7d493 1 (some .byte) [.ref (X.2.2.2.1 (2000 + j))] M M (some (.int r)) := by
  refine CT.of rfl (Nat.le_of_ble_eq_true rfl) (lv := [(0, .ref (X.2.2.2.1 (2000 + j)))]) rfl (fun Γ K => ?_)
  have K : Kx layX X Γ RJ0 cJ0_coder_7d493 1 0 (some .byte) := K
  unfold f_JS_coder0 at h
  refine g_compact (pn := 3) K rfl fs_J0_38 dJ0_coder_7d493_0 ?_
  refine g_ifF_eq (tgt := 13) (pn := 6) K rfl (by decide) dJ0_coder_7d493_3 (by decide) ?_
  refine g_aload_n (pn := 7) K rfl 0 rfl dJ0_coder_7d493_6 ?_
  refine g_coder (pn := 10) K rfl hj fs_J0_15 dJ0_coder_7d493_7 ?_
  refine g_goto (tgt := 14) K (by decide) dJ0_coder_7d493_10 ?_
  exact g_zret K rfl dJ0_coder_7d493_14 (oi h) rfl
set_option maxHeartbeats 4000000 in
set_option maxRecDepth 20000 in
theorem w_f_JS_isLatin10 {X : XT} {M : Mem} {j : Nat} {r : Bool} (hj : j < nS)  (h : f_JS_isLatin10 j = some r) : CT layX X 0 yJ0_isLatin1_aae02 cJ0_isLatin1_aae02 1 (some .boolean) [.ref (X.2.2.2.1 (2000 + j))] M M (some (.int (b2i r))) := by
  refine CT.of rfl (Nat.le_of_ble_eq_true rfl) (lv := [(0, .ref (X.2.2.2.1 (2000 + j)))]) rfl (fun Γ K => ?_)
  have K : Kx layX X Γ RJ0 cJ0_isLatin1_aae02 1 0 (some .boolean) := K
  unfold f_JS_isLatin10 at h
  refine g_compact (pn := 3) K rfl fs_J0_38 dJ0_isLatin1_aae02_0 ?_
  refine g_ifF_eq (tgt := 17) (pn := 6) K rfl (by decide) dJ0_isLatin1_aae02_3 (by decide) ?_
  refine g_aload_n (pn := 7) K rfl 0 rfl dJ0_isLatin1_aae02_6 ?_
  refine g_coder (pn := 10) K rfl hj fs_J0_15 dJ0_isLatin1_aae02_7 ?_
  refine g_ifF_ne (tgt := 17) (pn := 13) K rfl (by decide) dJ0_isLatin1_aae02_10 (by decide) ?_
  refine g_iconst (pn := 14) (v := 1) K rfl ic_1 dJ0_isLatin1_aae02_13 ?_
  refine g_goto (tgt := 18) K (by decide) dJ0_isLatin1_aae02_14 ?_
  exact g_zret K rfl dJ0_isLatin1_aae02_18 (bq1 (oi h)) rfl
set_option maxHeartbeats 4000000 in
set_option maxRecDepth 20000 in
theorem w_f_JS_length0 {X : XT} {M : Mem} {j : Nat} {r : Int32} (hj : j < nS)  (h : f_JS_length0 j = some r) : CT layX X 1 yJ0_length_8abf5 cJ0_length_8abf5 1 (some .int) [.ref (X.2.2.2.1 (2000 + j))] M M (some (.int r)) := by
  refine CT.of rfl (Nat.le_of_ble_eq_true rfl) (lv := [(0, .ref (X.2.2.2.1 (2000 + j)))]) rfl (fun Γ K => ?_)
  have K : Kx layX X Γ RJ0 cJ0_length_8abf5 1 1 (some .int) := K
  unfold f_JS_length0 at h
  refine g_aload_n (pn := 1) K rfl 0 rfl dJ0_length_8abf5_0 ?_
  refine g_value (pn := 4) K rfl hj fs_J0_9 dJ0_length_8abf5_1 ?_
  refine g_blen (pn := 5) K rfl hj dJ0_length_8abf5_4 ?_
  refine g_aload_n (pn := 6) K rfl 0 rfl dJ0_length_8abf5_5 ?_
  obtain ⟨v2, hc1, h⟩ := ob_e h
  have e9 : 0 = v2 := oi (show some 0 = some v2 from hc1)
  subst e9
  refine g_callV1 (pn := 9) (As := []) (rest := [.int (nI (lenS.getD j 0))]) (a := (2000 + j)) K rfl (d' := 0) (Nat.le_of_ble_eq_true rfl) mv_J0_335 (recvS K hj) (w_f_JS_coder0 hj hc1) rfl rfl (Nat.le_of_ble_eq_true rfl) dJ0_length_8abf5_6 ?_
  refine g_ishr (pn := 10) K rfl dJ0_length_8abf5_9 ?_
  exact g_iret K dJ0_length_8abf5_10 (oi h) rfl
set_option maxHeartbeats 4000000 in
set_option maxRecDepth 20000 in
theorem w_f_JL_charAt2 {X : XT} {M : Mem} {j1 : Nat} {a2 : Int32} {r : Int32} (hj1 : j1 < nS)  (h : f_JL_charAt2 j1 a2 = some r) : CT layX X 2 yJ1_charAt_3b067 cJ1_charAt_3b067 2 (some .char) [.ref (X.2.2.2.1 (3000 + j1)), .int a2] M M (some (.int r)) := by
  refine CT.of rfl (Nat.le_of_ble_eq_true rfl) (lv := [(0, .ref (X.2.2.2.1 (3000 + j1))), (1, .int a2)]) rfl (fun Γ K => ?_)
  have K : Kx layX X Γ RJ1 cJ1_charAt_3b067 2 2 (some .char) := K
  unfold f_JL_charAt2 at h
  refine g_iload_n (pn := 1) K rfl 1 rfl dJ1_charAt_3b067_0 ?_
  refine g_aload_n (pn := 2) K rfl 0 rfl dJ1_charAt_3b067_1 ?_
  refine g_blen (pn := 3) K rfl hj1 dJ1_charAt_3b067_2 ?_
  obtain ⟨v2, hc1, h⟩ := ob_e h
  refine g_callS0 (pn := 6) (As := [.int a2, .int (nI (lenS.getD j1 0))]) (rest := []) K rfl (d' := 1) (Nat.le_of_ble_eq_true rfl) ms_J1_9 (w_f_JS_checkIndex2 hc1) rfl rfl (Nat.le_of_ble_eq_true rfl) dJ1_charAt_3b067_3 ?_
  refine g_aload_n (pn := 7) K rfl 0 rfl dJ1_charAt_3b067_6 ?_
  refine g_iload_n (pn := 8) K rfl 1 rfl dJ1_charAt_3b067_7 ?_
  refine g_bald (pn := 9) (n := lenS.getD j1 0) K rfl hj1 rfl dJ1_charAt_3b067_8 h (fun h => ?_)
  refine g_sipush (pn := 12) (v := 255) K rfl sp_255 dJ1_charAt_3b067_9 ?_
  refine g_iand (pn := 13) K rfl dJ1_charAt_3b067_12 ?_
  refine g_i2c (pn := 14) K rfl dJ1_charAt_3b067_13 ?_
  exact g_zret K (pk_nc _) dJ1_charAt_3b067_14 (oi h) rfl
set_option maxHeartbeats 4000000 in
set_option maxRecDepth 20000 in
theorem w_f_JS_charAt1 {X : XT} {M : Mem} {j : Nat} {a1 : Int32} {r : Int32} (hj : j < nS)  (h : f_JS_charAt1 j a1 = some r) : CT layX X 3 yJ0_charAt_5068e cJ0_charAt_5068e 2 (some .char) [.ref (X.2.2.2.1 (2000 + j)), .int a1] M M (some (.int r)) := by
  refine CT.of rfl (Nat.le_of_ble_eq_true rfl) (lv := [(0, .ref (X.2.2.2.1 (2000 + j))), (1, .int a1)]) rfl (fun Γ K => ?_)
  have K : Kx layX X Γ RJ0 cJ0_charAt_5068e 2 3 (some .char) := K
  unfold f_JS_charAt1 at h
  refine g_aload_n (pn := 1) K rfl 0 rfl dJ0_charAt_5068e_0 ?_
  obtain ⟨v2, hc1, h⟩ := ob_e h
  have e9 : true = v2 := oi (show some true = some v2 from hc1)
  subst e9
  refine g_callV1 (pn := 4) (As := []) (rest := []) (a := (2000 + j)) K rfl (d' := 0) (Nat.le_of_ble_eq_true rfl) mv_J0_492 (recvS K hj) (w_f_JS_isLatin10 hj hc1) rfl rfl (Nat.le_of_ble_eq_true rfl) dJ0_charAt_5068e_1 ?_
  refine g_ifF_eq (tgt := 16) (pn := 7) K rfl (by decide) dJ0_charAt_5068e_4 (by decide) ?_
  refine g_aload_n (pn := 8) K rfl 0 rfl dJ0_charAt_5068e_7 ?_
  refine g_value (pn := 11) K rfl hj fs_J0_9 dJ0_charAt_5068e_8 ?_
  refine g_iload_n (pn := 12) K rfl 1 rfl dJ0_charAt_5068e_11 ?_
  obtain ⟨v4, hc3, h⟩ := ob_e h
  refine g_callS1 (pn := 15) (As := [.ref (X.2.2.2.1 (3000 + j)), .int a1]) (rest := []) K rfl (d' := 2) (Nat.le_of_ble_eq_true rfl) ms_J0_495 (w_f_JL_charAt2 hj hc3) rfl rfl (Nat.le_of_ble_eq_true rfl) dJ0_charAt_5068e_12 ?_
  exact g_zret K (charAt_nar hc3) dJ0_charAt_5068e_15 (oi h) rfl
set_option maxHeartbeats 4000000 in
set_option maxRecDepth 20000 in
theorem w_f_JL_canEncode1 {X : XT} {M : Mem} {a1 : Int32} {r : Bool}   (h : f_JL_canEncode1 a1 = some r) : CT layX X 0 yJ1_canEncode_9a6ad cJ1_canEncode_9a6ad 1 (some .boolean) [.int a1] M M (some (.int (b2i r))) := by
  refine CT.of rfl (Nat.le_of_ble_eq_true rfl) (lv := [(0, .int a1)]) rfl (fun Γ K => ?_)
  have K : Kx layX X Γ RJ1 cJ1_canEncode_9a6ad 1 0 (some .boolean) := K
  unfold f_JL_canEncode1 at h
  refine g_iload_n (pn := 1) K rfl 0 rfl dJ1_canEncode_9a6ad_0 ?_
  refine g_if_lt (tgt := 15) (pn := 4) K rfl (by decide) dJ1_canEncode_9a6ad_1 h (fun h => ?_) (fun h => ?_)
  · refine g_iconst (pn := 16) (v := 0) K rfl ic_0 dJ1_canEncode_9a6ad_15 ?_
    exact g_zret K rfl dJ1_canEncode_9a6ad_16 (bq0 (oi h)) rfl
  · refine g_iload_n (pn := 5) K rfl 0 rfl dJ1_canEncode_9a6ad_4 ?_
    refine g_sipush (pn := 8) (v := 255) K rfl sp_255 dJ1_canEncode_9a6ad_5 ?_
    refine g_icmp_gt (tgt := 15) (pn := 11) K rfl (by decide) dJ1_canEncode_9a6ad_8 h (fun h => ?_) (fun h => ?_)
    · refine g_iconst (pn := 16) (v := 0) K rfl ic_0 dJ1_canEncode_9a6ad_15 ?_
      exact g_zret K rfl dJ1_canEncode_9a6ad_16 (bq0 (oi h)) rfl
    · refine g_iconst (pn := 12) (v := 1) K rfl ic_1 dJ1_canEncode_9a6ad_11 ?_
      refine g_goto (tgt := 16) K (by decide) dJ1_canEncode_9a6ad_12 ?_
      exact g_zret K rfl dJ1_canEncode_9a6ad_16 (bq1 (oi h)) rfl
set_option maxHeartbeats 4000000 in
set_option maxRecDepth 20000 in
theorem w_f_JL_indexOfChar4 {X : XT} {M : Mem} {j1 : Nat} {a2 : Int32} {a3 : Int32} {a4 : Int32} {r : Int32} (hj1 : j1 < nS)  (h : f_JL_indexOfChar4 j1 a2 a3 a4 = some r) : CT layX X 0 yJ1_indexOfChar_4cfef cJ1_indexOfChar_4cfef 6 (some .int) [.ref (X.2.2.2.1 (3000 + j1)), .int a2, .int a3, .int a4] M M (some (.int r)) := by
  refine CT.of rfl (Nat.le_of_ble_eq_true rfl) (lv := [(0, .ref (X.2.2.2.1 (3000 + j1))), (1, .int a2), (2, .int a3), (3, .int a4)]) rfl (fun Γ K => ?_)
  have K : Kx layX X Γ RJ1 cJ1_indexOfChar_4cfef 6 0 (some .int) := K
  unfold f_JL_indexOfChar4 at h
  refine g_iload_n (pn := 1) K rfl 1 rfl dJ1_indexOfChar_4cfef_0 ?_
  refine g_i2b (pn := 2) K rfl dJ1_indexOfChar_4cfef_1 ?_
  refine g_nmi h (fun v1 h => ?_)
  refine g_istore (pn := 4) (lv' := [(4, .int v1), (0, .ref (X.2.2.2.1 (3000 + j1))), (1, .int a2), (2, .int a3), (3, .int a4)]) K rfl dJ1_indexOfChar_4cfef_2 (Nat.le_of_ble_eq_true rfl) rfl ?_
  refine g_iload_n (pn := 5) K rfl 3 rfl dJ1_indexOfChar_4cfef_4 ?_
  refine g_istore (pn := 7) (lv' := [(5, .int a3), (4, .int v1), (0, .ref (X.2.2.2.1 (3000 + j1))), (1, .int a2), (2, .int a3), (3, .int a4)]) K rfl dJ1_indexOfChar_4cfef_5 (Nat.le_of_ble_eq_true rfl) rfl ?_
  refine jp_e1 h (fun u2 => G layX X Γ 6 (QM layX X Γ (some (.int r)) M) 31 [] [] M) (fun u2 h => ?_) (fun j3 hj3 h => ?_)
  · refine g_iconst (pn := 32) (v := (-1)) K rfl ic_m1 dJ1_indexOfChar_4cfef_31 ?_
    exact g_iret K dJ1_indexOfChar_4cfef_32 (oi h) rfl
  have LP7 : ∀ (fu5 : Nat) (v4 : Int32), f_JL_indexOfChar4_L7 j1 a4 v1 j3 fu5 v4 = some r → G layX X Γ 6 (QM layX X Γ (some (.int r)) M) 7 [(4, .int v1), (0, .ref (X.2.2.2.1 (3000 + j1))), (3, .int a4), (5, .int v4)] [] M := by
    intro fu5
    induction fu5 with
    | zero =>
      intro v4 h
      rw [f_JL_indexOfChar4_L7] at h
      cases h
    | succ fu5 ih5 =>
      intro v4 h
      rw [f_JL_indexOfChar4_L7] at h
      refine g_iload (pn := 9) K rfl 3 rfl dJ1_indexOfChar_4cfef_7 ?_
      refine g_iload_n (pn := 10) K rfl 2 rfl dJ1_indexOfChar_4cfef_9 ?_
      refine g_icmp_ge (tgt := 31) (pn := 13) K rfl (by decide) dJ1_indexOfChar_4cfef_10 h (fun h => ?_) (fun h => ?_)
      · refine g_sub [] rfl ?_
        exact hj3 _ h
      · refine g_aload_n (pn := 14) K rfl 1 rfl dJ1_indexOfChar_4cfef_13 ?_
        refine g_iload (pn := 16) K rfl 3 rfl dJ1_indexOfChar_4cfef_14 ?_
        refine g_bald (pn := 17) (n := lenS.getD j1 0) K rfl hj1 rfl dJ1_indexOfChar_4cfef_16 h (fun h => ?_)
        refine g_iload (pn := 19) K rfl 0 rfl dJ1_indexOfChar_4cfef_17 ?_
        refine g_icmp_ne (tgt := 25) (pn := 22) K rfl (by decide) dJ1_indexOfChar_4cfef_19 h (fun h => ?_) (fun h => ?_)
        · obtain ⟨v6, ev6, h⟩ := bnd_e h
          refine g_iinc (pn := 28) (v := v6) (lv' := [(5, .int v6), (4, .int v1), (0, .ref (X.2.2.2.1 (3000 + j1))), (3, .int a4)]) K rfl 3 rfl ii_1 ev6 dJ1_indexOfChar_4cfef_25 (Nat.le_of_ble_eq_true rfl) rfl ?_
          refine g_goto (tgt := 7) K (by decide) dJ1_indexOfChar_4cfef_28 ?_
          refine g_sub [1, 2, 3, 0] rfl ?_
          exact ih5 _ h
        · refine g_iload (pn := 24) K rfl 3 rfl dJ1_indexOfChar_4cfef_22 ?_
          exact g_iret K dJ1_indexOfChar_4cfef_24 (oi h) rfl
  refine g_sub [1, 2, 5, 0] rfl ?_
  exact LP7 FU _ h
set_option maxHeartbeats 4000000 in
set_option maxRecDepth 20000 in
theorem w_f_JL_indexOf4 {X : XT} {M : Mem} {j1 : Nat} {a2 : Int32} {a3 : Int32} {a4 : Int32} {r : Int32} (hj1 : j1 < nS)  (h : f_JL_indexOf4 j1 a2 a3 a4 = some r) : CT layX X 1 yJ1_indexOf_4cfef cJ1_indexOf_4cfef 4 (some .int) [.ref (X.2.2.2.1 (3000 + j1)), .int a2, .int a3, .int a4] M M (some (.int r)) := by
  refine CT.of rfl (Nat.le_of_ble_eq_true rfl) (lv := [(0, .ref (X.2.2.2.1 (3000 + j1))), (1, .int a2), (2, .int a3), (3, .int a4)]) rfl (fun Γ K => ?_)
  have K : Kx layX X Γ RJ1 cJ1_indexOf_4cfef 4 1 (some .int) := K
  unfold f_JL_indexOf4 at h
  refine g_iload_n (pn := 1) K rfl 1 rfl dJ1_indexOf_4cfef_0 ?_
  obtain ⟨v2, hc1, h⟩ := ob_e h
  refine g_callS1 (pn := 4) (As := [.int a2]) (rest := []) K rfl (d' := 0) (Nat.le_of_ble_eq_true rfl) ms_J1_88 (w_f_JL_canEncode1 hc1) rfl rfl (Nat.le_of_ble_eq_true rfl) dJ1_indexOf_4cfef_1 ?_
  refine g_ifB_ne (tgt := 9) (pn := 7) K rfl (by decide) dJ1_indexOf_4cfef_4 h (fun h => ?_) (fun h => ?_)
  · refine g_iload_n (pn := 10) K rfl 2 rfl dJ1_indexOf_4cfef_9 ?_
    refine g_iconst (pn := 11) (v := 0) K rfl ic_0 dJ1_indexOf_4cfef_10 ?_
    refine g_mmax (pn := 14) K rfl (by decide) mm_J1_92 mm_max_s mm_i mm_max_c (Nat.le_of_ble_eq_true rfl) dJ1_indexOf_4cfef_11 ?_
    refine g_nmi h (fun v3 h => ?_)
    refine g_istore_n (pn := 15) (lv' := [(2, .int v3), (0, .ref (X.2.2.2.1 (3000 + j1))), (1, .int a2), (3, .int a4)]) K rfl dJ1_indexOf_4cfef_14 rfl (Nat.le_of_ble_eq_true rfl) rfl ?_
    refine g_iload_n (pn := 16) K rfl 3 rfl dJ1_indexOf_4cfef_15 ?_
    refine g_aload_n (pn := 17) K rfl 1 rfl dJ1_indexOf_4cfef_16 ?_
    refine g_blen (pn := 18) K rfl hj1 dJ1_indexOf_4cfef_17 ?_
    refine g_mmin (pn := 21) K rfl (by decide) mm_J1_38 mm_min_s mm_i mm_min_c (Nat.le_of_ble_eq_true rfl) dJ1_indexOf_4cfef_18 ?_
    refine g_nmi h (fun v4 h => ?_)
    refine g_istore_n (pn := 22) (lv' := [(3, .int v4), (2, .int v3), (0, .ref (X.2.2.2.1 (3000 + j1))), (1, .int a2)]) K rfl dJ1_indexOf_4cfef_21 rfl (Nat.le_of_ble_eq_true rfl) rfl ?_
    refine g_iload_n (pn := 23) K rfl 1 rfl dJ1_indexOf_4cfef_22 ?_
    refine g_iload_n (pn := 24) K rfl 0 rfl dJ1_indexOf_4cfef_23 ?_
    refine g_icmp_lt (tgt := 29) (pn := 27) K rfl (by decide) dJ1_indexOf_4cfef_24 h (fun h => ?_) (fun h => ?_)
    · refine g_aload_n (pn := 30) K rfl 2 rfl dJ1_indexOf_4cfef_29 ?_
      refine g_iload_n (pn := 31) K rfl 3 rfl dJ1_indexOf_4cfef_30 ?_
      refine g_iload_n (pn := 32) K rfl 1 rfl dJ1_indexOf_4cfef_31 ?_
      refine g_iload_n (pn := 33) K rfl 0 rfl dJ1_indexOf_4cfef_32 ?_
      obtain ⟨v6, hc5, h⟩ := ob_e h
      refine g_callS1 (pn := 36) (As := [.ref (X.2.2.2.1 (3000 + j1)), .int a2, .int v3, .int v4]) (rest := []) K rfl (d' := 0) (Nat.le_of_ble_eq_true rfl) ms_J1_95 (w_f_JL_indexOfChar4 hj1 hc5) rfl rfl (Nat.le_of_ble_eq_true rfl) dJ1_indexOf_4cfef_33 ?_
      exact g_iret K dJ1_indexOf_4cfef_36 (oi h) rfl
    · refine g_iconst (pn := 28) (v := (-1)) K rfl ic_m1 dJ1_indexOf_4cfef_27 ?_
      exact g_iret K dJ1_indexOf_4cfef_28 (oi h) rfl
  · refine g_iconst (pn := 8) (v := (-1)) K rfl ic_m1 dJ1_indexOf_4cfef_7 ?_
    exact g_iret K dJ1_indexOf_4cfef_8 (oi h) rfl
set_option maxHeartbeats 4000000 in
set_option maxRecDepth 20000 in
theorem w_f_JS_indexOf2 {X : XT} {M : Mem} {j : Nat} {a1 : Int32} {a2 : Int32} {r : Int32} (hj : j < nS)  (h : f_JS_indexOf2 j a1 a2 = some r) : CT layX X 2 yJ0_indexOf_7cf53 cJ0_indexOf_7cf53 3 (some .int) [.ref (X.2.2.2.1 (2000 + j)), .int a1, .int a2] M M (some (.int r)) := by
  refine CT.of rfl (Nat.le_of_ble_eq_true rfl) (lv := [(0, .ref (X.2.2.2.1 (2000 + j))), (1, .int a1), (2, .int a2)]) rfl (fun Γ K => ?_)
  have K : Kx layX X Γ RJ0 cJ0_indexOf_7cf53 3 2 (some .int) := K
  unfold f_JS_indexOf2 at h
  refine g_aload_n (pn := 1) K rfl 0 rfl dJ0_indexOf_7cf53_0 ?_
  obtain ⟨v2, hc1, h⟩ := ob_e h
  have e9 : true = v2 := oi (show some true = some v2 from hc1)
  subst e9
  refine g_callV1 (pn := 4) (As := []) (rest := []) (a := (2000 + j)) K rfl (d' := 0) (Nat.le_of_ble_eq_true rfl) mv_J0_492 (recvS K hj) (w_f_JS_isLatin10 hj hc1) rfl rfl (Nat.le_of_ble_eq_true rfl) dJ0_indexOf_7cf53_1 ?_
  refine g_ifF_eq (tgt := 23) (pn := 7) K rfl (by decide) dJ0_indexOf_7cf53_4 (by decide) ?_
  refine g_aload_n (pn := 8) K rfl 0 rfl dJ0_indexOf_7cf53_7 ?_
  refine g_value (pn := 11) K rfl hj fs_J0_9 dJ0_indexOf_7cf53_8 ?_
  refine g_iload_n (pn := 12) K rfl 1 rfl dJ0_indexOf_7cf53_11 ?_
  refine g_iload_n (pn := 13) K rfl 2 rfl dJ0_indexOf_7cf53_12 ?_
  refine g_aload_n (pn := 14) K rfl 0 rfl dJ0_indexOf_7cf53_13 ?_
  obtain ⟨v4, hc3, h⟩ := ob_e h
  refine g_callV1 (pn := 17) (As := []) (rest := [.int a2, .int a1, .ref (X.2.2.2.1 (3000 + j))]) (a := (2000 + j)) K rfl (d' := 1) (Nat.le_of_ble_eq_true rfl) mv_J0_505 (recvS K hj) (w_f_JS_length0 hj hc3) rfl rfl (Nat.le_of_ble_eq_true rfl) dJ0_indexOf_7cf53_14 ?_
  obtain ⟨v6, hc5, h⟩ := ob_e h
  refine g_callS1 (pn := 20) (As := [.ref (X.2.2.2.1 (3000 + j)), .int a1, .int a2, .int v4]) (rest := []) K rfl (d' := 1) (Nat.le_of_ble_eq_true rfl) ms_J0_637 (w_f_JL_indexOf4 hj hc5) rfl rfl (Nat.le_of_ble_eq_true rfl) dJ0_indexOf_7cf53_17 ?_
  refine g_goto (tgt := 36) K (by decide) dJ0_indexOf_7cf53_20 ?_
  exact g_iret K dJ0_indexOf_7cf53_36 (oi h) rfl
set_option maxHeartbeats 4000000 in
set_option maxRecDepth 20000 in
theorem w_f_JS_indexOf1 {X : XT} {M : Mem} {j : Nat} {a1 : Int32} {r : Int32} (hj : j < nS)  (h : f_JS_indexOf1 j a1 = some r) : CT layX X 3 yJ0_indexOf_0f7a4 cJ0_indexOf_0f7a4 2 (some .int) [.ref (X.2.2.2.1 (2000 + j)), .int a1] M M (some (.int r)) := by
  refine CT.of rfl (Nat.le_of_ble_eq_true rfl) (lv := [(0, .ref (X.2.2.2.1 (2000 + j))), (1, .int a1)]) rfl (fun Γ K => ?_)
  have K : Kx layX X Γ RJ0 cJ0_indexOf_0f7a4 2 3 (some .int) := K
  unfold f_JS_indexOf1 at h
  refine g_aload_n (pn := 1) K rfl 0 rfl dJ0_indexOf_0f7a4_0 ?_
  refine g_iload_n (pn := 2) K rfl 1 rfl dJ0_indexOf_0f7a4_1 ?_
  refine g_iconst (pn := 3) (v := 0) K rfl ic_0 dJ0_indexOf_0f7a4_2 ?_
  obtain ⟨v2, hc1, h⟩ := ob_e h
  refine g_callV1 (pn := 6) (As := [.int a1, .int 0]) (rest := []) (a := (2000 + j)) K rfl (d' := 2) (Nat.le_of_ble_eq_true rfl) mv_J0_633 (recvS K hj) (w_f_JS_indexOf2 hj hc1) rfl rfl (Nat.le_of_ble_eq_true rfl) dJ0_indexOf_0f7a4_3 ?_
  exact g_iret K dJ0_indexOf_0f7a4_6 (oi h) rfl
set_option maxHeartbeats 4000000 in
set_option maxRecDepth 20000 in
theorem w_f_JI_bitCount1 {X : XT} {M : Mem} {a1 : Int32} {r : Int32}   (h : f_JI_bitCount1 a1 = some r) : CT layX X 0 yJ6_bitCount_0f7a4 cJ6_bitCount_0f7a4 1 (some .int) [.int a1] M M (some (.int r)) := by
  refine CT.of rfl (Nat.le_of_ble_eq_true rfl) (lv := [(0, .int a1)]) rfl (fun Γ K => ?_)
  have K : Kx layX X Γ RJ6 cJ6_bitCount_0f7a4 1 0 (some .int) := K
  unfold f_JI_bitCount1 at h
  refine g_iload_n (pn := 1) K rfl 0 rfl dJ6_bitCount_0f7a4_0 ?_
  refine g_iload_n (pn := 2) K rfl 0 rfl dJ6_bitCount_0f7a4_1 ?_
  refine g_iconst (pn := 3) (v := 1) K rfl ic_1 dJ6_bitCount_0f7a4_2 ?_
  refine g_iushr (pn := 4) K rfl dJ6_bitCount_0f7a4_3 ?_
  refine g_ldcw (pn := 7) (v := 1431655765) K rfl cn_J6_265 dJ6_bitCount_0f7a4_4 ?_
  refine g_iand (pn := 8) K rfl dJ6_bitCount_0f7a4_7 ?_
  refine g_isub (pn := 9) K rfl dJ6_bitCount_0f7a4_8 ?_
  refine g_nmi h (fun v1 h => ?_)
  refine g_istore_n (pn := 10) (lv' := [(0, .int v1)]) K rfl dJ6_bitCount_0f7a4_9 rfl (Nat.le_of_ble_eq_true rfl) rfl ?_
  refine g_iload_n (pn := 11) K rfl 0 rfl dJ6_bitCount_0f7a4_10 ?_
  refine g_ldcw (pn := 14) (v := 858993459) K rfl cn_J6_266 dJ6_bitCount_0f7a4_11 ?_
  refine g_iand (pn := 15) K rfl dJ6_bitCount_0f7a4_14 ?_
  refine g_iload_n (pn := 16) K rfl 0 rfl dJ6_bitCount_0f7a4_15 ?_
  refine g_iconst (pn := 17) (v := 2) K rfl ic_2 dJ6_bitCount_0f7a4_16 ?_
  refine g_iushr (pn := 18) K rfl dJ6_bitCount_0f7a4_17 ?_
  refine g_ldcw (pn := 21) (v := 858993459) K rfl cn_J6_266 dJ6_bitCount_0f7a4_18 ?_
  refine g_iand (pn := 22) K rfl dJ6_bitCount_0f7a4_21 ?_
  refine g_iadd (pn := 23) K rfl dJ6_bitCount_0f7a4_22 ?_
  refine g_nmi h (fun v2 h => ?_)
  refine g_istore_n (pn := 24) (lv' := [(0, .int v2)]) K rfl dJ6_bitCount_0f7a4_23 rfl (Nat.le_of_ble_eq_true rfl) rfl ?_
  refine g_iload_n (pn := 25) K rfl 0 rfl dJ6_bitCount_0f7a4_24 ?_
  refine g_iload_n (pn := 26) K rfl 0 rfl dJ6_bitCount_0f7a4_25 ?_
  refine g_iconst (pn := 27) (v := 4) K rfl ic_4 dJ6_bitCount_0f7a4_26 ?_
  refine g_iushr (pn := 28) K rfl dJ6_bitCount_0f7a4_27 ?_
  refine g_iadd (pn := 29) K rfl dJ6_bitCount_0f7a4_28 ?_
  refine g_ldcw (pn := 32) (v := 252645135) K rfl cn_J6_267 dJ6_bitCount_0f7a4_29 ?_
  refine g_iand (pn := 33) K rfl dJ6_bitCount_0f7a4_32 ?_
  refine g_nmi h (fun v3 h => ?_)
  refine g_istore_n (pn := 34) (lv' := [(0, .int v3)]) K rfl dJ6_bitCount_0f7a4_33 rfl (Nat.le_of_ble_eq_true rfl) rfl ?_
  refine g_iload_n (pn := 35) K rfl 0 rfl dJ6_bitCount_0f7a4_34 ?_
  refine g_iload_n (pn := 36) K rfl 0 rfl dJ6_bitCount_0f7a4_35 ?_
  refine g_bipush (pn := 38) (v := 8) K rfl bp_8 dJ6_bitCount_0f7a4_36 ?_
  refine g_iushr (pn := 39) K rfl dJ6_bitCount_0f7a4_38 ?_
  refine g_iadd (pn := 40) K rfl dJ6_bitCount_0f7a4_39 ?_
  refine g_nmi h (fun v4 h => ?_)
  refine g_istore_n (pn := 41) (lv' := [(0, .int v4)]) K rfl dJ6_bitCount_0f7a4_40 rfl (Nat.le_of_ble_eq_true rfl) rfl ?_
  refine g_iload_n (pn := 42) K rfl 0 rfl dJ6_bitCount_0f7a4_41 ?_
  refine g_iload_n (pn := 43) K rfl 0 rfl dJ6_bitCount_0f7a4_42 ?_
  refine g_bipush (pn := 45) (v := 16) K rfl bp_16 dJ6_bitCount_0f7a4_43 ?_
  refine g_iushr (pn := 46) K rfl dJ6_bitCount_0f7a4_45 ?_
  refine g_iadd (pn := 47) K rfl dJ6_bitCount_0f7a4_46 ?_
  refine g_nmi h (fun v5 h => ?_)
  refine g_istore_n (pn := 48) (lv' := [(0, .int v5)]) K rfl dJ6_bitCount_0f7a4_47 rfl (Nat.le_of_ble_eq_true rfl) rfl ?_
  refine g_iload_n (pn := 49) K rfl 0 rfl dJ6_bitCount_0f7a4_48 ?_
  refine g_bipush (pn := 51) (v := 63) K rfl bp_63 dJ6_bitCount_0f7a4_49 ?_
  refine g_iand (pn := 52) K rfl dJ6_bitCount_0f7a4_51 ?_
  exact g_iret K dJ6_bitCount_0f7a4_52 (oi h) rfl
end
section
/-! printed by gen1.py -/
theorem dX6_add_0 : decode cX6_add 0 = .ok (.aload_n 0, 1) := by decide +kernel
theorem dX6_add_1 : decode cX6_add 1 = .ok (.getfield 15, 3) := by decide +kernel
theorem dX6_add_4 : decode cX6_add 4 = .ok (.ifCond .lt 13, 3) := by decide +kernel
theorem dX6_add_7 : decode cX6_add 7 = .ok (.aload_n 0, 1) := by decide +kernel
theorem dX6_add_8 : decode cX6_add 8 = .ok (.getfield 15, 3) := by decide +kernel
theorem dX6_add_11 : decode cX6_add 11 = .ok (.sipush 160, 3) := by decide +kernel
theorem dX6_add_14 : decode cX6_add 14 = .ok (.if_icmp .lt 6, 3) := by decide +kernel
theorem dX6_add_17 : decode cX6_add 17 = .ok (.bipush (-4), 2) := by decide +kernel
theorem dX6_add_19 : decode cX6_add 19 = .ok (.ireturn, 1) := by decide +kernel
theorem dX6_add_20 : decode cX6_add 20 = .ok (.aload_n 0, 1) := by decide +kernel
theorem dX6_add_21 : decode cX6_add 21 = .ok (.getfield 9, 3) := by decide +kernel
theorem dX6_add_24 : decode cX6_add 24 = .ok (.aload_n 0, 1) := by decide +kernel
theorem dX6_add_25 : decode cX6_add 25 = .ok (.getfield 15, 3) := by decide +kernel
theorem dX6_add_28 : decode cX6_add 28 = .ok (.iload_n 1, 1) := by decide +kernel
theorem dX6_add_29 : decode cX6_add 29 = .ok (.iastore, 1) := by decide +kernel
theorem dX6_add_30 : decode cX6_add 30 = .ok (.aload_n 0, 1) := by decide +kernel
theorem dX6_add_31 : decode cX6_add 31 = .ok (.dup, 1) := by decide +kernel
theorem dX6_add_32 : decode cX6_add 32 = .ok (.getfield 15, 3) := by decide +kernel
theorem dX6_add_35 : decode cX6_add 35 = .ok (.iconst 1, 1) := by decide +kernel
theorem dX6_add_36 : decode cX6_add 36 = .ok (.iadd, 1) := by decide +kernel
theorem dX6_add_37 : decode cX6_add 37 = .ok (.putfield 15, 3) := by decide +kernel
theorem dX6_add_40 : decode cX6_add 40 = .ok (.aload_n 0, 1) := by decide +kernel
theorem dX6_add_41 : decode cX6_add 41 = .ok (.getfield 15, 3) := by decide +kernel
theorem dX6_add_44 : decode cX6_add 44 = .ok (.ireturn, 1) := by decide +kernel
theorem dX6_clear_0 : decode cX6_clear 0 = .ok (.aload_n 0, 1) := by decide +kernel
theorem dX6_clear_1 : decode cX6_clear 1 = .ok (.iconst 0, 1) := by decide +kernel
theorem dX6_clear_2 : decode cX6_clear 2 = .ok (.putfield 15, 3) := by decide +kernel
theorem dX6_clear_5 : decode cX6_clear 5 = .ok (.return_, 1) := by decide +kernel
theorem dX6_isLetter_0 : decode cX6_isLetter 0 = .ok (.iload_n 0, 1) := by decide +kernel
theorem dX6_isLetter_1 : decode cX6_isLetter 1 = .ok (.bipush 97, 2) := by decide +kernel
theorem dX6_isLetter_3 : decode cX6_isLetter 3 = .ok (.if_icmp .lt 13, 3) := by decide +kernel
theorem dX6_isLetter_6 : decode cX6_isLetter 6 = .ok (.iload_n 0, 1) := by decide +kernel
theorem dX6_isLetter_7 : decode cX6_isLetter 7 = .ok (.bipush 122, 2) := by decide +kernel
theorem dX6_isLetter_9 : decode cX6_isLetter 9 = .ok (.if_icmp .gt 7, 3) := by decide +kernel
theorem dX6_isLetter_12 : decode cX6_isLetter 12 = .ok (.iconst 1, 1) := by decide +kernel
theorem dX6_isLetter_13 : decode cX6_isLetter 13 = .ok (.goto 4, 3) := by decide +kernel
theorem dX6_isLetter_16 : decode cX6_isLetter 16 = .ok (.iconst 0, 1) := by decide +kernel
theorem dX6_isLetter_17 : decode cX6_isLetter 17 = .ok (.ireturn, 1) := by decide +kernel
theorem dX6_isDigit_0 : decode cX6_isDigit 0 = .ok (.iload_n 0, 1) := by decide +kernel
theorem dX6_isDigit_1 : decode cX6_isDigit 1 = .ok (.bipush 48, 2) := by decide +kernel
theorem dX6_isDigit_3 : decode cX6_isDigit 3 = .ok (.if_icmp .lt 13, 3) := by decide +kernel
theorem dX6_isDigit_6 : decode cX6_isDigit 6 = .ok (.iload_n 0, 1) := by decide +kernel
theorem dX6_isDigit_7 : decode cX6_isDigit 7 = .ok (.bipush 57, 2) := by decide +kernel
theorem dX6_isDigit_9 : decode cX6_isDigit 9 = .ok (.if_icmp .gt 7, 3) := by decide +kernel
theorem dX6_isDigit_12 : decode cX6_isDigit 12 = .ok (.iconst 1, 1) := by decide +kernel
theorem dX6_isDigit_13 : decode cX6_isDigit 13 = .ok (.goto 4, 3) := by decide +kernel
theorem dX6_isDigit_16 : decode cX6_isDigit 16 = .ok (.iconst 0, 1) := by decide +kernel
theorem dX6_isDigit_17 : decode cX6_isDigit 17 = .ok (.ireturn, 1) := by decide +kernel
theorem dX6_endOf_0 : decode cX6_endOf 0 = .ok (.iload_n 1, 1) := by decide +kernel
theorem dX6_endOf_1 : decode cX6_endOf 1 = .ok (.iconst 1, 1) := by decide +kernel
theorem dX6_endOf_2 : decode cX6_endOf 2 = .ok (.iadd, 1) := by decide +kernel
theorem dX6_endOf_3 : decode cX6_endOf 3 = .ok (.istore_n 2, 1) := by decide +kernel
theorem dX6_endOf_4 : decode cX6_endOf 4 = .ok (.aload_n 0, 1) := by decide +kernel
theorem dX6_endOf_5 : decode cX6_endOf 5 = .ok (.getfield 9, 3) := by decide +kernel
theorem dX6_endOf_8 : decode cX6_endOf 8 = .ok (.iload_n 1, 1) := by decide +kernel
theorem dX6_endOf_9 : decode cX6_endOf 9 = .ok (.iaload, 1) := by decide +kernel
theorem dX6_endOf_10 : decode cX6_endOf 10 = .ok (.invokestatic 42, 3) := by decide +kernel
theorem dX6_endOf_13 : decode cX6_endOf 13 = .ok (.istore_n 3, 1) := by decide +kernel
theorem dX6_endOf_14 : decode cX6_endOf 14 = .ok (.aload_n 0, 1) := by decide +kernel
theorem dX6_endOf_15 : decode cX6_endOf 15 = .ok (.getfield 9, 3) := by decide +kernel
theorem dX6_endOf_18 : decode cX6_endOf 18 = .ok (.iload_n 1, 1) := by decide +kernel
theorem dX6_endOf_19 : decode cX6_endOf 19 = .ok (.iaload, 1) := by decide +kernel
theorem dX6_endOf_20 : decode cX6_endOf 20 = .ok (.invokestatic 46, 3) := by decide +kernel
theorem dX6_endOf_23 : decode cX6_endOf 23 = .ok (.istore 4, 2) := by decide +kernel
theorem dX6_endOf_25 : decode cX6_endOf 25 = .ok (.iload_n 2, 1) := by decide +kernel
theorem dX6_endOf_26 : decode cX6_endOf 26 = .ok (.aload_n 0, 1) := by decide +kernel
theorem dX6_endOf_27 : decode cX6_endOf 27 = .ok (.getfield 15, 3) := by decide +kernel
theorem dX6_endOf_30 : decode cX6_endOf 30 = .ok (.if_icmp .ge 49, 3) := by decide +kernel
theorem dX6_endOf_33 : decode cX6_endOf 33 = .ok (.iload_n 2, 1) := by decide +kernel
theorem dX6_endOf_34 : decode cX6_endOf 34 = .ok (.sipush 160, 3) := by decide +kernel
theorem dX6_endOf_37 : decode cX6_endOf 37 = .ok (.if_icmp .ge 42, 3) := by decide +kernel
theorem dX6_endOf_40 : decode cX6_endOf 40 = .ok (.iload_n 3, 1) := by decide +kernel
theorem dX6_endOf_41 : decode cX6_endOf 41 = .ok (.ifCond .eq 15, 3) := by decide +kernel
theorem dX6_endOf_44 : decode cX6_endOf 44 = .ok (.aload_n 0, 1) := by decide +kernel
theorem dX6_endOf_45 : decode cX6_endOf 45 = .ok (.getfield 9, 3) := by decide +kernel
theorem dX6_endOf_48 : decode cX6_endOf 48 = .ok (.iload_n 2, 1) := by decide +kernel
theorem dX6_endOf_49 : decode cX6_endOf 49 = .ok (.iaload, 1) := by decide +kernel
theorem dX6_endOf_50 : decode cX6_endOf 50 = .ok (.invokestatic 42, 3) := by decide +kernel
theorem dX6_endOf_53 : decode cX6_endOf 53 = .ok (.ifCond .ne 20, 3) := by decide +kernel
theorem dX6_endOf_56 : decode cX6_endOf 56 = .ok (.iload 4, 2) := by decide +kernel
theorem dX6_endOf_58 : decode cX6_endOf 58 = .ok (.ifCond .eq 21, 3) := by decide +kernel
theorem dX6_endOf_61 : decode cX6_endOf 61 = .ok (.aload_n 0, 1) := by decide +kernel
theorem dX6_endOf_62 : decode cX6_endOf 62 = .ok (.getfield 9, 3) := by decide +kernel
theorem dX6_endOf_65 : decode cX6_endOf 65 = .ok (.iload_n 2, 1) := by decide +kernel
theorem dX6_endOf_66 : decode cX6_endOf 66 = .ok (.iaload, 1) := by decide +kernel
theorem dX6_endOf_67 : decode cX6_endOf 67 = .ok (.invokestatic 46, 3) := by decide +kernel
theorem dX6_endOf_70 : decode cX6_endOf 70 = .ok (.ifCond .eq 9, 3) := by decide +kernel
theorem dX6_endOf_73 : decode cX6_endOf 73 = .ok (.iinc 2 1, 3) := by decide +kernel
theorem dX6_endOf_76 : decode cX6_endOf 76 = .ok (.goto (-51), 3) := by decide +kernel
theorem dX6_endOf_79 : decode cX6_endOf 79 = .ok (.iload_n 2, 1) := by decide +kernel
theorem dX6_endOf_80 : decode cX6_endOf 80 = .ok (.ireturn, 1) := by decide +kernel
theorem dX6_numberOf_0 : decode cX6_numberOf 0 = .ok (.iconst 0, 1) := by decide +kernel
theorem dX6_numberOf_1 : decode cX6_numberOf 1 = .ok (.istore_n 3, 1) := by decide +kernel
theorem dX6_numberOf_2 : decode cX6_numberOf 2 = .ok (.iload_n 1, 1) := by decide +kernel
theorem dX6_numberOf_3 : decode cX6_numberOf 3 = .ok (.istore 4, 2) := by decide +kernel
theorem dX6_numberOf_5 : decode cX6_numberOf 5 = .ok (.iload 4, 2) := by decide +kernel
theorem dX6_numberOf_7 : decode cX6_numberOf 7 = .ok (.iload_n 2, 1) := by decide +kernel
theorem dX6_numberOf_8 : decode cX6_numberOf 8 = .ok (.if_icmp .ge 33, 3) := by decide +kernel
theorem dX6_numberOf_11 : decode cX6_numberOf 11 = .ok (.iload 4, 2) := by decide +kernel
theorem dX6_numberOf_13 : decode cX6_numberOf 13 = .ok (.sipush 160, 3) := by decide +kernel
theorem dX6_numberOf_16 : decode cX6_numberOf 16 = .ok (.if_icmp .ge 25, 3) := by decide +kernel
theorem dX6_numberOf_19 : decode cX6_numberOf 19 = .ok (.iload_n 3, 1) := by decide +kernel
theorem dX6_numberOf_20 : decode cX6_numberOf 20 = .ok (.bipush 10, 2) := by decide +kernel
theorem dX6_numberOf_22 : decode cX6_numberOf 22 = .ok (.imul, 1) := by decide +kernel
theorem dX6_numberOf_23 : decode cX6_numberOf 23 = .ok (.aload_n 0, 1) := by decide +kernel
theorem dX6_numberOf_24 : decode cX6_numberOf 24 = .ok (.getfield 9, 3) := by decide +kernel
theorem dX6_numberOf_27 : decode cX6_numberOf 27 = .ok (.iload 4, 2) := by decide +kernel
theorem dX6_numberOf_29 : decode cX6_numberOf 29 = .ok (.iaload, 1) := by decide +kernel
theorem dX6_numberOf_30 : decode cX6_numberOf 30 = .ok (.bipush 48, 2) := by decide +kernel
theorem dX6_numberOf_32 : decode cX6_numberOf 32 = .ok (.isub, 1) := by decide +kernel
theorem dX6_numberOf_33 : decode cX6_numberOf 33 = .ok (.iadd, 1) := by decide +kernel
theorem dX6_numberOf_34 : decode cX6_numberOf 34 = .ok (.istore_n 3, 1) := by decide +kernel
theorem dX6_numberOf_35 : decode cX6_numberOf 35 = .ok (.iinc 4 1, 3) := by decide +kernel
theorem dX6_numberOf_38 : decode cX6_numberOf 38 = .ok (.goto (-33), 3) := by decide +kernel
theorem dX6_numberOf_41 : decode cX6_numberOf 41 = .ok (.iload_n 3, 1) := by decide +kernel
theorem dX6_numberOf_42 : decode cX6_numberOf 42 = .ok (.ireturn, 1) := by decide +kernel
theorem dX6_spells_0 : decode cX6_spells 0 = .ok (.aload_n 1, 1) := by decide +kernel
theorem dX6_spells_1 : decode cX6_spells 1 = .ok (.invokevirtual 64, 3) := by decide +kernel
theorem dX6_spells_4 : decode cX6_spells 4 = .ok (.iload_n 3, 1) := by decide +kernel
theorem dX6_spells_5 : decode cX6_spells 5 = .ok (.iload_n 2, 1) := by decide +kernel
theorem dX6_spells_6 : decode cX6_spells 6 = .ok (.isub, 1) := by decide +kernel
theorem dX6_spells_7 : decode cX6_spells 7 = .ok (.if_icmp .eq 5, 3) := by decide +kernel
theorem dX6_spells_10 : decode cX6_spells 10 = .ok (.iconst 0, 1) := by decide +kernel
theorem dX6_spells_11 : decode cX6_spells 11 = .ok (.ireturn, 1) := by decide +kernel
theorem dX6_spells_12 : decode cX6_spells 12 = .ok (.iload_n 2, 1) := by decide +kernel
theorem dX6_spells_13 : decode cX6_spells 13 = .ok (.istore 4, 2) := by decide +kernel
theorem dX6_spells_15 : decode cX6_spells 15 = .ok (.iload 4, 2) := by decide +kernel
theorem dX6_spells_17 : decode cX6_spells 17 = .ok (.iload_n 3, 1) := by decide +kernel
theorem dX6_spells_18 : decode cX6_spells 18 = .ok (.if_icmp .ge 37, 3) := by decide +kernel
theorem dX6_spells_21 : decode cX6_spells 21 = .ok (.iload 4, 2) := by decide +kernel
theorem dX6_spells_23 : decode cX6_spells 23 = .ok (.sipush 160, 3) := by decide +kernel
theorem dX6_spells_26 : decode cX6_spells 26 = .ok (.if_icmp .ge 29, 3) := by decide +kernel
theorem dX6_spells_29 : decode cX6_spells 29 = .ok (.aload_n 1, 1) := by decide +kernel
theorem dX6_spells_30 : decode cX6_spells 30 = .ok (.iload 4, 2) := by decide +kernel
theorem dX6_spells_32 : decode cX6_spells 32 = .ok (.iload_n 2, 1) := by decide +kernel
theorem dX6_spells_33 : decode cX6_spells 33 = .ok (.isub, 1) := by decide +kernel
theorem dX6_spells_34 : decode cX6_spells 34 = .ok (.invokevirtual 68, 3) := by decide +kernel
theorem dX6_spells_37 : decode cX6_spells 37 = .ok (.aload_n 0, 1) := by decide +kernel
theorem dX6_spells_38 : decode cX6_spells 38 = .ok (.getfield 9, 3) := by decide +kernel
theorem dX6_spells_41 : decode cX6_spells 41 = .ok (.iload 4, 2) := by decide +kernel
theorem dX6_spells_43 : decode cX6_spells 43 = .ok (.iaload, 1) := by decide +kernel
theorem dX6_spells_44 : decode cX6_spells 44 = .ok (.if_icmp .eq 5, 3) := by decide +kernel
theorem dX6_spells_47 : decode cX6_spells 47 = .ok (.iconst 0, 1) := by decide +kernel
theorem dX6_spells_48 : decode cX6_spells 48 = .ok (.ireturn, 1) := by decide +kernel
theorem dX6_spells_49 : decode cX6_spells 49 = .ok (.iinc 4 1, 3) := by decide +kernel
theorem dX6_spells_52 : decode cX6_spells 52 = .ok (.goto (-37), 3) := by decide +kernel
theorem dX6_spells_55 : decode cX6_spells 55 = .ok (.iconst 1, 1) := by decide +kernel
theorem dX6_spells_56 : decode cX6_spells 56 = .ok (.ireturn, 1) := by decide +kernel
theorem dX6_wordOf_0 : decode cX6_wordOf 0 = .ok (.iload_n 0, 1) := by decide +kernel
theorem dX6_wordOf_1 : decode cX6_wordOf 1 = .ok (.tableswitch 92 1 11 #[59, 62, 65, 68, 71, 74, 77, 80, 83, 86, 89], 59) := by decide +kernel
theorem dX6_wordOf_60 : decode cX6_wordOf 60 = .ok (.ldc 72, 2) := by decide +kernel
theorem dX6_wordOf_62 : decode cX6_wordOf 62 = .ok (.areturn, 1) := by decide +kernel
theorem dX6_wordOf_63 : decode cX6_wordOf 63 = .ok (.ldc 74, 2) := by decide +kernel
theorem dX6_wordOf_65 : decode cX6_wordOf 65 = .ok (.areturn, 1) := by decide +kernel
theorem dX6_wordOf_66 : decode cX6_wordOf 66 = .ok (.ldc 76, 2) := by decide +kernel
theorem dX6_wordOf_68 : decode cX6_wordOf 68 = .ok (.areturn, 1) := by decide +kernel
theorem dX6_wordOf_69 : decode cX6_wordOf 69 = .ok (.ldc 78, 2) := by decide +kernel
theorem dX6_wordOf_71 : decode cX6_wordOf 71 = .ok (.areturn, 1) := by decide +kernel
theorem dX6_wordOf_72 : decode cX6_wordOf 72 = .ok (.ldc 80, 2) := by decide +kernel
theorem dX6_wordOf_74 : decode cX6_wordOf 74 = .ok (.areturn, 1) := by decide +kernel
theorem dX6_wordOf_75 : decode cX6_wordOf 75 = .ok (.ldc 82, 2) := by decide +kernel
theorem dX6_wordOf_77 : decode cX6_wordOf 77 = .ok (.areturn, 1) := by decide +kernel
theorem dX6_wordOf_78 : decode cX6_wordOf 78 = .ok (.ldc 84, 2) := by decide +kernel
theorem dX6_wordOf_80 : decode cX6_wordOf 80 = .ok (.areturn, 1) := by decide +kernel
theorem dX6_wordOf_81 : decode cX6_wordOf 81 = .ok (.ldc 86, 2) := by decide +kernel
theorem dX6_wordOf_83 : decode cX6_wordOf 83 = .ok (.areturn, 1) := by decide +kernel
theorem dX6_wordOf_84 : decode cX6_wordOf 84 = .ok (.ldc 88, 2) := by decide +kernel
theorem dX6_wordOf_86 : decode cX6_wordOf 86 = .ok (.areturn, 1) := by decide +kernel
theorem dX6_wordOf_87 : decode cX6_wordOf 87 = .ok (.ldc 90, 2) := by decide +kernel
theorem dX6_wordOf_89 : decode cX6_wordOf 89 = .ok (.areturn, 1) := by decide +kernel
theorem dX6_wordOf_90 : decode cX6_wordOf 90 = .ok (.ldc 92, 2) := by decide +kernel
theorem dX6_wordOf_92 : decode cX6_wordOf 92 = .ok (.areturn, 1) := by decide +kernel
theorem dX6_wordOf_93 : decode cX6_wordOf 93 = .ok (.ldc 94, 2) := by decide +kernel
theorem dX6_wordOf_95 : decode cX6_wordOf 95 = .ok (.areturn, 1) := by decide +kernel
theorem dX6_tokenOf_0 : decode cX6_tokenOf 0 = .ok (.aload_n 0, 1) := by decide +kernel
theorem dX6_tokenOf_1 : decode cX6_tokenOf 1 = .ok (.getfield 9, 3) := by decide +kernel
theorem dX6_tokenOf_4 : decode cX6_tokenOf 4 = .ok (.iload_n 1, 1) := by decide +kernel
theorem dX6_tokenOf_5 : decode cX6_tokenOf 5 = .ok (.iaload, 1) := by decide +kernel
theorem dX6_tokenOf_6 : decode cX6_tokenOf 6 = .ok (.istore_n 3, 1) := by decide +kernel
theorem dX6_tokenOf_7 : decode cX6_tokenOf 7 = .ok (.iload_n 3, 1) := by decide +kernel
theorem dX6_tokenOf_8 : decode cX6_tokenOf 8 = .ok (.invokestatic 46, 3) := by decide +kernel
theorem dX6_tokenOf_11 : decode cX6_tokenOf 11 = .ok (.ifCond .eq 18, 3) := by decide +kernel
theorem dX6_tokenOf_14 : decode cX6_tokenOf 14 = .ok (.iload_n 2, 1) := by decide +kernel
theorem dX6_tokenOf_15 : decode cX6_tokenOf 15 = .ok (.iload_n 1, 1) := by decide +kernel
theorem dX6_tokenOf_16 : decode cX6_tokenOf 16 = .ok (.isub, 1) := by decide +kernel
theorem dX6_tokenOf_17 : decode cX6_tokenOf 17 = .ok (.iconst 4, 1) := by decide +kernel
theorem dX6_tokenOf_18 : decode cX6_tokenOf 18 = .ok (.if_icmp .le 8, 3) := by decide +kernel
theorem dX6_tokenOf_21 : decode cX6_tokenOf 21 = .ok (.bipush 15, 2) := by decide +kernel
theorem dX6_tokenOf_23 : decode cX6_tokenOf 23 = .ok (.goto 5, 3) := by decide +kernel
theorem dX6_tokenOf_26 : decode cX6_tokenOf 26 = .ok (.bipush 13, 2) := by decide +kernel
theorem dX6_tokenOf_28 : decode cX6_tokenOf 28 = .ok (.ireturn, 1) := by decide +kernel
theorem dX6_tokenOf_29 : decode cX6_tokenOf 29 = .ok (.iload_n 3, 1) := by decide +kernel
theorem dX6_tokenOf_30 : decode cX6_tokenOf 30 = .ok (.invokestatic 42, 3) := by decide +kernel
theorem dX6_tokenOf_33 : decode cX6_tokenOf 33 = .ok (.ifCond .ne 20, 3) := by decide +kernel
theorem dX6_tokenOf_36 : decode cX6_tokenOf 36 = .ok (.ldc 49, 2) := by decide +kernel
theorem dX6_tokenOf_38 : decode cX6_tokenOf 38 = .ok (.iload_n 3, 1) := by decide +kernel
theorem dX6_tokenOf_39 : decode cX6_tokenOf 39 = .ok (.i2c, 1) := by decide +kernel
theorem dX6_tokenOf_40 : decode cX6_tokenOf 40 = .ok (.invokevirtual 51, 3) := by decide +kernel
theorem dX6_tokenOf_43 : decode cX6_tokenOf 43 = .ok (.ifCond .lt 7, 3) := by decide +kernel
theorem dX6_tokenOf_46 : decode cX6_tokenOf 46 = .ok (.iload_n 3, 1) := by decide +kernel
theorem dX6_tokenOf_47 : decode cX6_tokenOf 47 = .ok (.goto 5, 3) := by decide +kernel
theorem dX6_tokenOf_50 : decode cX6_tokenOf 50 = .ok (.bipush 15, 2) := by decide +kernel
theorem dX6_tokenOf_52 : decode cX6_tokenOf 52 = .ok (.ireturn, 1) := by decide +kernel
theorem dX6_tokenOf_53 : decode cX6_tokenOf 53 = .ok (.iconst 1, 1) := by decide +kernel
theorem dX6_tokenOf_54 : decode cX6_tokenOf 54 = .ok (.istore 4, 2) := by decide +kernel
theorem dX6_tokenOf_56 : decode cX6_tokenOf 56 = .ok (.iload 4, 2) := by decide +kernel
theorem dX6_tokenOf_58 : decode cX6_tokenOf 58 = .ok (.bipush 12, 2) := by decide +kernel
theorem dX6_tokenOf_60 : decode cX6_tokenOf 60 = .ok (.if_icmp .gt 26, 3) := by decide +kernel
theorem dX6_tokenOf_63 : decode cX6_tokenOf 63 = .ok (.aload_n 0, 1) := by decide +kernel
theorem dX6_tokenOf_64 : decode cX6_tokenOf 64 = .ok (.iload 4, 2) := by decide +kernel
theorem dX6_tokenOf_66 : decode cX6_tokenOf 66 = .ok (.invokestatic 56, 3) := by decide +kernel
theorem dX6_tokenOf_69 : decode cX6_tokenOf 69 = .ok (.iload_n 1, 1) := by decide +kernel
theorem dX6_tokenOf_70 : decode cX6_tokenOf 70 = .ok (.iload_n 2, 1) := by decide +kernel
theorem dX6_tokenOf_71 : decode cX6_tokenOf 71 = .ok (.invokevirtual 60, 3) := by decide +kernel
theorem dX6_tokenOf_74 : decode cX6_tokenOf 74 = .ok (.ifCond .eq 6, 3) := by decide +kernel
theorem dX6_tokenOf_77 : decode cX6_tokenOf 77 = .ok (.iload 4, 2) := by decide +kernel
theorem dX6_tokenOf_79 : decode cX6_tokenOf 79 = .ok (.ireturn, 1) := by decide +kernel
theorem dX6_tokenOf_80 : decode cX6_tokenOf 80 = .ok (.iinc 4 1, 3) := by decide +kernel
theorem dX6_tokenOf_83 : decode cX6_tokenOf 83 = .ok (.goto (-27), 3) := by decide +kernel
theorem dX6_tokenOf_86 : decode cX6_tokenOf 86 = .ok (.bipush 15, 2) := by decide +kernel
theorem dX6_tokenOf_88 : decode cX6_tokenOf 88 = .ok (.ireturn, 1) := by decide +kernel
theorem dX6_cut_0 : decode cX6_cut 0 = .ok (.aload_n 0, 1) := by decide +kernel
theorem dX6_cut_1 : decode cX6_cut 1 = .ok (.iconst 0, 1) := by decide +kernel
theorem dX6_cut_2 : decode cX6_cut 2 = .ok (.putfield 28, 3) := by decide +kernel
theorem dX6_cut_5 : decode cX6_cut 5 = .ok (.iconst 0, 1) := by decide +kernel
theorem dX6_cut_6 : decode cX6_cut 6 = .ok (.istore_n 1, 1) := by decide +kernel
theorem dX6_cut_7 : decode cX6_cut 7 = .ok (.iload_n 1, 1) := by decide +kernel
theorem dX6_cut_8 : decode cX6_cut 8 = .ok (.aload_n 0, 1) := by decide +kernel
theorem dX6_cut_9 : decode cX6_cut 9 = .ok (.getfield 15, 3) := by decide +kernel
theorem dX6_cut_12 : decode cX6_cut 12 = .ok (.if_icmp .ge 112, 3) := by decide +kernel
theorem dX6_cut_15 : decode cX6_cut 15 = .ok (.iload_n 1, 1) := by decide +kernel
theorem dX6_cut_16 : decode cX6_cut 16 = .ok (.sipush 160, 3) := by decide +kernel
theorem dX6_cut_19 : decode cX6_cut 19 = .ok (.if_icmp .ge 105, 3) := by decide +kernel
theorem dX6_cut_22 : decode cX6_cut 22 = .ok (.aload_n 0, 1) := by decide +kernel
theorem dX6_cut_23 : decode cX6_cut 23 = .ok (.getfield 9, 3) := by decide +kernel
theorem dX6_cut_26 : decode cX6_cut 26 = .ok (.iload_n 1, 1) := by decide +kernel
theorem dX6_cut_27 : decode cX6_cut 27 = .ok (.iaload, 1) := by decide +kernel
theorem dX6_cut_28 : decode cX6_cut 28 = .ok (.istore_n 2, 1) := by decide +kernel
theorem dX6_cut_29 : decode cX6_cut 29 = .ok (.iload_n 1, 1) := by decide +kernel
theorem dX6_cut_30 : decode cX6_cut 30 = .ok (.iconst 1, 1) := by decide +kernel
theorem dX6_cut_31 : decode cX6_cut 31 = .ok (.iadd, 1) := by decide +kernel
theorem dX6_cut_32 : decode cX6_cut 32 = .ok (.istore_n 3, 1) := by decide +kernel
theorem dX6_cut_33 : decode cX6_cut 33 = .ok (.iload_n 2, 1) := by decide +kernel
theorem dX6_cut_34 : decode cX6_cut 34 = .ok (.bipush 32, 2) := by decide +kernel
theorem dX6_cut_36 : decode cX6_cut 36 = .ok (.if_icmp .eq 83, 3) := by decide +kernel
theorem dX6_cut_39 : decode cX6_cut 39 = .ok (.iload_n 2, 1) := by decide +kernel
theorem dX6_cut_40 : decode cX6_cut 40 = .ok (.bipush 10, 2) := by decide +kernel
theorem dX6_cut_42 : decode cX6_cut 42 = .ok (.if_icmp .eq 77, 3) := by decide +kernel
theorem dX6_cut_45 : decode cX6_cut 45 = .ok (.aload_n 0, 1) := by decide +kernel
theorem dX6_cut_46 : decode cX6_cut 46 = .ok (.iload_n 1, 1) := by decide +kernel
theorem dX6_cut_47 : decode cX6_cut 47 = .ok (.invokevirtual 31, 3) := by decide +kernel
theorem dX6_cut_50 : decode cX6_cut 50 = .ok (.istore_n 3, 1) := by decide +kernel
theorem dX6_cut_51 : decode cX6_cut 51 = .ok (.aload_n 0, 1) := by decide +kernel
theorem dX6_cut_52 : decode cX6_cut 52 = .ok (.getfield 19, 3) := by decide +kernel
theorem dX6_cut_55 : decode cX6_cut 55 = .ok (.aload_n 0, 1) := by decide +kernel
theorem dX6_cut_56 : decode cX6_cut 56 = .ok (.getfield 28, 3) := by decide +kernel
theorem dX6_cut_59 : decode cX6_cut 59 = .ok (.aload_n 0, 1) := by decide +kernel
theorem dX6_cut_60 : decode cX6_cut 60 = .ok (.iload_n 1, 1) := by decide +kernel
theorem dX6_cut_61 : decode cX6_cut 61 = .ok (.iload_n 3, 1) := by decide +kernel
theorem dX6_cut_62 : decode cX6_cut 62 = .ok (.invokevirtual 35, 3) := by decide +kernel
theorem dX6_cut_65 : decode cX6_cut 65 = .ok (.iastore, 1) := by decide +kernel
theorem dX6_cut_66 : decode cX6_cut 66 = .ok (.aload_n 0, 1) := by decide +kernel
theorem dX6_cut_67 : decode cX6_cut 67 = .ok (.getfield 22, 3) := by decide +kernel
theorem dX6_cut_70 : decode cX6_cut 70 = .ok (.aload_n 0, 1) := by decide +kernel
theorem dX6_cut_71 : decode cX6_cut 71 = .ok (.getfield 28, 3) := by decide +kernel
theorem dX6_cut_74 : decode cX6_cut 74 = .ok (.iload_n 1, 1) := by decide +kernel
theorem dX6_cut_75 : decode cX6_cut 75 = .ok (.iastore, 1) := by decide +kernel
theorem dX6_cut_76 : decode cX6_cut 76 = .ok (.aload_n 0, 1) := by decide +kernel
theorem dX6_cut_77 : decode cX6_cut 77 = .ok (.getfield 25, 3) := by decide +kernel
theorem dX6_cut_80 : decode cX6_cut 80 = .ok (.aload_n 0, 1) := by decide +kernel
theorem dX6_cut_81 : decode cX6_cut 81 = .ok (.getfield 28, 3) := by decide +kernel
theorem dX6_cut_84 : decode cX6_cut 84 = .ok (.aload_n 0, 1) := by decide +kernel
theorem dX6_cut_85 : decode cX6_cut 85 = .ok (.getfield 19, 3) := by decide +kernel
theorem dX6_cut_88 : decode cX6_cut 88 = .ok (.aload_n 0, 1) := by decide +kernel
theorem dX6_cut_89 : decode cX6_cut 89 = .ok (.getfield 28, 3) := by decide +kernel
theorem dX6_cut_92 : decode cX6_cut 92 = .ok (.iaload, 1) := by decide +kernel
theorem dX6_cut_93 : decode cX6_cut 93 = .ok (.bipush 13, 2) := by decide +kernel
theorem dX6_cut_95 : decode cX6_cut 95 = .ok (.if_icmp .ne 12, 3) := by decide +kernel
theorem dX6_cut_98 : decode cX6_cut 98 = .ok (.aload_n 0, 1) := by decide +kernel
theorem dX6_cut_99 : decode cX6_cut 99 = .ok (.iload_n 1, 1) := by decide +kernel
theorem dX6_cut_100 : decode cX6_cut 100 = .ok (.iload_n 3, 1) := by decide +kernel
theorem dX6_cut_101 : decode cX6_cut 101 = .ok (.invokevirtual 39, 3) := by decide +kernel
theorem dX6_cut_104 : decode cX6_cut 104 = .ok (.goto 4, 3) := by decide +kernel
theorem dX6_cut_107 : decode cX6_cut 107 = .ok (.iconst 0, 1) := by decide +kernel
theorem dX6_cut_108 : decode cX6_cut 108 = .ok (.iastore, 1) := by decide +kernel
theorem dX6_cut_109 : decode cX6_cut 109 = .ok (.aload_n 0, 1) := by decide +kernel
theorem dX6_cut_110 : decode cX6_cut 110 = .ok (.dup, 1) := by decide +kernel
theorem dX6_cut_111 : decode cX6_cut 111 = .ok (.getfield 28, 3) := by decide +kernel
theorem dX6_cut_114 : decode cX6_cut 114 = .ok (.iconst 1, 1) := by decide +kernel
theorem dX6_cut_115 : decode cX6_cut 115 = .ok (.iadd, 1) := by decide +kernel
theorem dX6_cut_116 : decode cX6_cut 116 = .ok (.putfield 28, 3) := by decide +kernel
theorem dX6_cut_119 : decode cX6_cut 119 = .ok (.iload_n 3, 1) := by decide +kernel
theorem dX6_cut_120 : decode cX6_cut 120 = .ok (.istore_n 1, 1) := by decide +kernel
theorem dX6_cut_121 : decode cX6_cut 121 = .ok (.goto (-114), 3) := by decide +kernel
theorem dX6_cut_124 : decode cX6_cut 124 = .ok (.aload_n 0, 1) := by decide +kernel
theorem dX6_cut_125 : decode cX6_cut 125 = .ok (.getfield 19, 3) := by decide +kernel
theorem dX6_cut_128 : decode cX6_cut 128 = .ok (.aload_n 0, 1) := by decide +kernel
theorem dX6_cut_129 : decode cX6_cut 129 = .ok (.getfield 28, 3) := by decide +kernel
theorem dX6_cut_132 : decode cX6_cut 132 = .ok (.bipush 14, 2) := by decide +kernel
theorem dX6_cut_134 : decode cX6_cut 134 = .ok (.iastore, 1) := by decide +kernel
theorem dX6_cut_135 : decode cX6_cut 135 = .ok (.aload_n 0, 1) := by decide +kernel
theorem dX6_cut_136 : decode cX6_cut 136 = .ok (.getfield 22, 3) := by decide +kernel
theorem dX6_cut_139 : decode cX6_cut 139 = .ok (.aload_n 0, 1) := by decide +kernel
theorem dX6_cut_140 : decode cX6_cut 140 = .ok (.getfield 28, 3) := by decide +kernel
theorem dX6_cut_143 : decode cX6_cut 143 = .ok (.aload_n 0, 1) := by decide +kernel
theorem dX6_cut_144 : decode cX6_cut 144 = .ok (.getfield 15, 3) := by decide +kernel
theorem dX6_cut_147 : decode cX6_cut 147 = .ok (.iastore, 1) := by decide +kernel
theorem dX6_cut_148 : decode cX6_cut 148 = .ok (.return_, 1) := by decide +kernel
def f_Tape_add (M : Mem) (a1 : Int32) : Option (Mem × Int32) :=
if (M 13 1) < 0 then
(some (M, (-4)))
else
(if (M 13 1) < 160 then
(ck (M 13 1) 160 <|
bnd (wr M 14 (M 13 1).toNatClampNeg a1) fun (M1 : Mem) =>
bnd (wr M1 13 1 ((M1 13 1) + 1)) fun (M2 : Mem) =>
some (M2, (M2 13 1)))
else
(some (M, (-4))))
def f_Tape_clear (M : Mem) : Option Mem :=
bnd (wr M 13 1 0) fun (M1 : Mem) =>
some M1
def f_Tape_isLetter (a1 : Int32) : Option Bool :=
if a1 < 97 then
(some false)
else
(if 122 < a1 then
(some false)
else
(some true))
def f_Tape_isDigit (a1 : Int32) : Option Bool :=
if a1 < 48 then
(some false)
else
(if 57 < a1 then
(some false)
else
(some true))
def f_Tape_endOf_L25 (M : Mem) (v3 : Bool) (v5 : Bool) (j7 : Int32 → Option Int32) : Nat → Int32 → Option Int32
  | 0, _ => none
  | fu9 + 1, v8 =>
    if (M 13 1) ≤ v8 then
    (j7 v8)
    else
    (if 160 ≤ v8 then
    (j7 v8)
    else
    (jp (fun (u10 : Unit) =>
    if v5 = true then
    (ck v8 160 <|
    ob (f_Tape_isDigit (M 14 v8.toNatClampNeg)) fun (v13 : Bool) =>
    if v13 = true then
    (bnd (v8 + 1) fun (v14 : Int32) =>
    f_Tape_endOf_L25 M v3 v5 j7 fu9 v14)
    else
    (j7 v8))
    else
    (j7 v8)) fun j11 =>
    if v3 = true then
    (ck v8 160 <|
    ob (f_Tape_isLetter (M 14 v8.toNatClampNeg)) fun (v16 : Bool) =>
    if v16 = true then
    (bnd (v8 + 1) fun (v17 : Int32) =>
    f_Tape_endOf_L25 M v3 v5 j7 fu9 v17)
    else
    (j11 ()))
    else
    (j11 ())))
def f_Tape_endOf (M : Mem) (a1 : Int32) : Option Int32 :=
bnd ((a1 + 1)) fun (v1 : Int32) =>
ck a1 160 <|
ob (f_Tape_isLetter (M 14 a1.toNatClampNeg)) fun (v3 : Bool) =>
ck a1 160 <|
ob (f_Tape_isDigit (M 14 a1.toNatClampNeg)) fun (v5 : Bool) =>
jp (fun (v6 : Int32) =>
some v6) fun j7 =>
f_Tape_endOf_L25 M v3 v5 j7 FU v1
def f_Tape_numberOf_L5 (M : Mem) (a2 : Int32) (j2 : Int32 → Option Int32) : Nat → Int32 → Int32 → Option Int32
  | 0, _, _ => none
  | fu5 + 1, v3, v4 =>
    if a2 ≤ v4 then
    (j2 v3)
    else
    (if 160 ≤ v4 then
    (j2 v3)
    else
    (ck v4 160 <|
    bnd (((v3 * 10) + ((M 14 v4.toNatClampNeg) - 48))) fun (v6 : Int32) =>
    bnd (v4 + 1) fun (v7 : Int32) =>
    f_Tape_numberOf_L5 M a2 j2 fu5 v6 v7))
def f_Tape_numberOf (M : Mem) (a1 : Int32) (a2 : Int32) : Option Int32 :=
jp (fun (v1 : Int32) =>
some v1) fun j2 =>
f_Tape_numberOf_L5 M a2 j2 FU 0 a1
def f_Tape_spells_L15 (M : Mem) (j1 : Nat) (a2 : Int32) (a3 : Int32) (j4 : Unit → Option Bool) : Nat → Int32 → Option Bool
  | 0, _ => none
  | fu6 + 1, v5 =>
    if a3 ≤ v5 then
    (j4 ())
    else
    (if 160 ≤ v5 then
    (j4 ())
    else
    (ob (f_JS_charAt1 j1 (v5 - a2)) fun (v8 : Int32) =>
    ck v5 160 <|
    if v8 = (M 14 v5.toNatClampNeg) then
    (bnd (v5 + 1) fun (v9 : Int32) =>
    f_Tape_spells_L15 M j1 a2 a3 j4 fu6 v9)
    else
    (some false)))
def f_Tape_spells (M : Mem) (j1 : Nat) (a2 : Int32) (a3 : Int32) : Option Bool :=
ob (f_JS_length0 j1) fun (v2 : Int32) =>
if v2 = (a3 - a2) then
(jp (fun (u3 : Unit) =>
some true) fun j4 =>
f_Tape_spells_L15 M j1 a2 a3 j4 FU a2)
else
(some false)
def f_Tape_wordOf (a1 : Int32) : Option Nat :=
if a1 = 1 then
(some 2)
else
(if a1 = 2 then
(some 3)
else
(if a1 = 3 then
(some 4)
else
(if a1 = 4 then
(some 5)
else
(if a1 = 5 then
(some 6)
else
(if a1 = 6 then
(some 7)
else
(if a1 = 7 then
(some 8)
else
(if a1 = 8 then
(some 9)
else
(if a1 = 9 then
(some 10)
else
(if a1 = 10 then
(some 11)
else
(if a1 = 11 then
(some 12)
else
(some 13)))))))))))
theorem wordOf_lt {a : Int32} {r : Nat} (h : f_Tape_wordOf a = some r) : r < nS := by
  unfold f_Tape_wordOf at h
  repeat (first | (rw [← oi h]; decide) | split at h)
def f_Tape_tokenOf_L56 (M : Mem) (a1 : Int32) (a2 : Int32) (j7 : Unit → Option Int32) : Nat → Int32 → Option Int32
  | 0, _ => none
  | fu9 + 1, v8 =>
    if 12 < v8 then
    (j7 ())
    else
    (ob (f_Tape_wordOf v8) fun (v11 : Nat) =>
    ob (f_Tape_spells M v11 a1 a2) fun (v13 : Bool) =>
    if v13 = true then
    (some v8)
    else
    (bnd (v8 + 1) fun (v14 : Int32) =>
    f_Tape_tokenOf_L56 M a1 a2 j7 fu9 v14))
def f_Tape_tokenOf (M : Mem) (a1 : Int32) (a2 : Int32) : Option Int32 :=
ck a1 160 <|
bnd ((M 14 a1.toNatClampNeg)) fun (v1 : Int32) =>
ob (f_Tape_isDigit v1) fun (v3 : Bool) =>
if v3 = true then
(if (a2 - a1) ≤ 4 then
(some 13)
else
(some 15))
else
(ob (f_Tape_isLetter v1) fun (v5 : Bool) =>
if v5 = true then
(jp (fun (u6 : Unit) =>
some 15) fun j7 =>
f_Tape_tokenOf_L56 M a1 a2 j7 FU 1)
else
(ob (f_JS_indexOf1 1 ((v1.toUInt32 % 65536).toInt32)) fun (v16 : Int32) =>
if v16 < 0 then
(some 15)
else
(some v1)))
def f_Tape_cut_L7 (j3 : Mem → Option Mem) : Nat → Int32 → Mem → Option Mem
  | 0, _, _ => none
  | fu8 + 1, v6, M7 =>
    if (M7 13 1) ≤ v6 then
    (j3 M7)
    else
    (if 160 ≤ v6 then
    (j3 M7)
    else
    (ck v6 160 <|
    bnd ((M7 14 v6.toNatClampNeg)) fun (v9 : Int32) =>
    bnd ((v6 + 1)) fun (v10 : Int32) =>
    jp (fun (v11 : Int32) (M12 : Mem) =>
    f_Tape_cut_L7 j3 fu8 v11 M12) fun j13 =>
    if v9 = 32 then
    (j13 v10 M7)
    else
    (if v9 = 10 then
    (j13 v10 M7)
    else
    (ob (f_Tape_endOf M7 v6) fun (v15 : Int32) =>
    ob (f_Tape_tokenOf M7 v6 v15) fun (v17 : Int32) =>
    ck (M7 13 5) 161 <|
    bnd (wr M7 15 (M7 13 5).toNatClampNeg v17) fun (M18 : Mem) =>
    ck (M18 13 5) 161 <|
    bnd (wr M18 16 (M18 13 5).toNatClampNeg v6) fun (M19 : Mem) =>
    ck (M19 13 5) 161 <|
    jp (fun (v20 : Int32) =>
    ck (M19 13 5) 161 <|
    bnd (wr M19 17 (M19 13 5).toNatClampNeg v20) fun (M22 : Mem) =>
    bnd (wr M22 13 5 ((M22 13 5) + 1)) fun (M23 : Mem) =>
    j13 v15 M23) fun j21 =>
    if (M19 15 (M19 13 5).toNatClampNeg) = 13 then
    (ob (f_Tape_numberOf M19 v6 v15) fun (v25 : Int32) =>
    j21 v25)
    else
    (j21 0)))))
def f_Tape_cut (M : Mem) : Option Mem :=
bnd (wr M 13 5 0) fun (M1 : Mem) =>
jp (fun (M2 : Mem) =>
ck (M2 13 5) 161 <|
bnd (wr M2 15 (M2 13 5).toNatClampNeg 14) fun (M4 : Mem) =>
ck (M4 13 5) 161 <|
bnd (wr M4 16 (M4 13 5).toNatClampNeg (M4 13 1)) fun (M5 : Mem) =>
some M5) fun j3 =>
f_Tape_cut_L7 j3 FU 0 M1
set_option maxHeartbeats 4000000 in
set_option maxRecDepth 20000 in
theorem w_f_Tape_add {X : XT} {M : Mem} {a1 : Int32} {M' : Mem} {r : Int32}   (h : f_Tape_add M a1 = some (M', r)) : CT layX X 0 yX6_add cX6_add 2 (some .int) [.ref (X.2.2.2.1 13), .int a1] M M' (some (.int r)) := by
  refine CT.of rfl (Nat.le_of_ble_eq_true rfl) (lv := [(0, .ref (X.2.2.2.1 13)), (1, .int a1)]) rfl (fun Γ K => ?_)
  have K : Kx layX X Γ RX6 cX6_add 2 0 (some .int) := K
  unfold f_Tape_add at h
  refine g_aload_n (pn := 1) K rfl 0 rfl dX6_add_0 ?_
  refine g_geti (pn := 4) K rfl fl_X6_15 lx_13 rfl dX6_add_1 ?_
  refine g_if_lt (tgt := 17) (pn := 7) K rfl (by decide) dX6_add_4 h (fun h => ?_) (fun h => ?_)
  · refine g_bipush (pn := 19) (v := (-4)) K rfl bp_m4 dX6_add_17 ?_
    exact g_iret K dX6_add_19 (oi2 h).2 (oi2 h).1
  · refine g_aload_n (pn := 8) K rfl 0 rfl dX6_add_7 ?_
    refine g_geti (pn := 11) K rfl fl_X6_15 lx_13 rfl dX6_add_8 ?_
    refine g_sipush (pn := 14) (v := 160) K rfl sp_160 dX6_add_11 ?_
    refine g_icmp_lt (tgt := 20) (pn := 17) K rfl (by decide) dX6_add_14 h (fun h => ?_) (fun h => ?_)
    · refine g_aload_n (pn := 21) K rfl 0 rfl dX6_add_20 ?_
      refine g_getr (pn := 24) (j := 14) K rfl fl_X6_9 lx_13 rfl dX6_add_21 ?_
      refine g_aload_n (pn := 25) K rfl 0 rfl dX6_add_24 ?_
      refine g_geti (pn := 28) K rfl fl_X6_15 lx_13 rfl dX6_add_25 ?_
      refine g_iload_n (pn := 29) K rfl 1 rfl dX6_add_28 ?_
      refine g_iast (pn := 30) K rfl lx_14 dX6_add_29 h (fun M1 h => ?_)
      refine g_aload_n (pn := 31) K rfl 0 rfl dX6_add_30 ?_
      refine g_dup (pn := 32) K rfl rfl dX6_add_31 ?_
      refine g_geti (pn := 35) K rfl fl_X6_15 lx_13 rfl dX6_add_32 ?_
      refine g_iconst (pn := 36) (v := 1) K rfl ic_1 dX6_add_35 ?_
      refine g_iadd (pn := 37) K rfl dX6_add_36 ?_
      refine g_puti (pn := 40) K rfl fp_X6_15 lx_13 rfl dX6_add_37 h (fun M2 h => ?_)
      refine g_aload_n (pn := 41) K rfl 0 rfl dX6_add_40 ?_
      refine g_geti (pn := 44) K rfl fl_X6_15 lx_13 rfl dX6_add_41 ?_
      exact g_iret K dX6_add_44 (oi2 h).2 (oi2 h).1
    · refine g_bipush (pn := 19) (v := (-4)) K rfl bp_m4 dX6_add_17 ?_
      exact g_iret K dX6_add_19 (oi2 h).2 (oi2 h).1
set_option maxHeartbeats 4000000 in
set_option maxRecDepth 20000 in
theorem w_f_Tape_clear {X : XT} {M : Mem}  {M' : Mem}   (h : f_Tape_clear M = some M') : CT layX X 0 yX6_clear cX6_clear 1 none [.ref (X.2.2.2.1 13)] M M' none := by
  refine CT.of rfl (Nat.le_of_ble_eq_true rfl) (lv := [(0, .ref (X.2.2.2.1 13))]) rfl (fun Γ K => ?_)
  have K : Kx layX X Γ RX6 cX6_clear 1 0 none := K
  unfold f_Tape_clear at h
  refine g_aload_n (pn := 1) K rfl 0 rfl dX6_clear_0 ?_
  refine g_iconst (pn := 2) (v := 0) K rfl ic_0 dX6_clear_1 ?_
  refine g_puti (pn := 5) K rfl fp_X6_15 lx_13 rfl dX6_clear_2 h (fun M1 h => ?_)
  exact g_vret K dX6_clear_5 (oi h)
set_option maxHeartbeats 4000000 in
set_option maxRecDepth 20000 in
theorem w_f_Tape_isLetter {X : XT} {M : Mem} {a1 : Int32} {r : Bool}   (h : f_Tape_isLetter a1 = some r) : CT layX X 0 yX6_isLetter cX6_isLetter 1 (some .boolean) [.int a1] M M (some (.int (b2i r))) := by
  refine CT.of rfl (Nat.le_of_ble_eq_true rfl) (lv := [(0, .int a1)]) rfl (fun Γ K => ?_)
  have K : Kx layX X Γ RX6 cX6_isLetter 1 0 (some .boolean) := K
  unfold f_Tape_isLetter at h
  refine g_iload_n (pn := 1) K rfl 0 rfl dX6_isLetter_0 ?_
  refine g_bipush (pn := 3) (v := 97) K rfl bp_97 dX6_isLetter_1 ?_
  refine g_icmp_lt (tgt := 16) (pn := 6) K rfl (by decide) dX6_isLetter_3 h (fun h => ?_) (fun h => ?_)
  · refine g_iconst (pn := 17) (v := 0) K rfl ic_0 dX6_isLetter_16 ?_
    exact g_zret K rfl dX6_isLetter_17 (bq0 (oi h)) rfl
  · refine g_iload_n (pn := 7) K rfl 0 rfl dX6_isLetter_6 ?_
    refine g_bipush (pn := 9) (v := 122) K rfl bp_122 dX6_isLetter_7 ?_
    refine g_icmp_gt (tgt := 16) (pn := 12) K rfl (by decide) dX6_isLetter_9 h (fun h => ?_) (fun h => ?_)
    · refine g_iconst (pn := 17) (v := 0) K rfl ic_0 dX6_isLetter_16 ?_
      exact g_zret K rfl dX6_isLetter_17 (bq0 (oi h)) rfl
    · refine g_iconst (pn := 13) (v := 1) K rfl ic_1 dX6_isLetter_12 ?_
      refine g_goto (tgt := 17) K (by decide) dX6_isLetter_13 ?_
      exact g_zret K rfl dX6_isLetter_17 (bq1 (oi h)) rfl
set_option maxHeartbeats 4000000 in
set_option maxRecDepth 20000 in
theorem w_f_Tape_isDigit {X : XT} {M : Mem} {a1 : Int32} {r : Bool}   (h : f_Tape_isDigit a1 = some r) : CT layX X 0 yX6_isDigit cX6_isDigit 1 (some .boolean) [.int a1] M M (some (.int (b2i r))) := by
  refine CT.of rfl (Nat.le_of_ble_eq_true rfl) (lv := [(0, .int a1)]) rfl (fun Γ K => ?_)
  have K : Kx layX X Γ RX6 cX6_isDigit 1 0 (some .boolean) := K
  unfold f_Tape_isDigit at h
  refine g_iload_n (pn := 1) K rfl 0 rfl dX6_isDigit_0 ?_
  refine g_bipush (pn := 3) (v := 48) K rfl bp_48 dX6_isDigit_1 ?_
  refine g_icmp_lt (tgt := 16) (pn := 6) K rfl (by decide) dX6_isDigit_3 h (fun h => ?_) (fun h => ?_)
  · refine g_iconst (pn := 17) (v := 0) K rfl ic_0 dX6_isDigit_16 ?_
    exact g_zret K rfl dX6_isDigit_17 (bq0 (oi h)) rfl
  · refine g_iload_n (pn := 7) K rfl 0 rfl dX6_isDigit_6 ?_
    refine g_bipush (pn := 9) (v := 57) K rfl bp_57 dX6_isDigit_7 ?_
    refine g_icmp_gt (tgt := 16) (pn := 12) K rfl (by decide) dX6_isDigit_9 h (fun h => ?_) (fun h => ?_)
    · refine g_iconst (pn := 17) (v := 0) K rfl ic_0 dX6_isDigit_16 ?_
      exact g_zret K rfl dX6_isDigit_17 (bq0 (oi h)) rfl
    · refine g_iconst (pn := 13) (v := 1) K rfl ic_1 dX6_isDigit_12 ?_
      refine g_goto (tgt := 17) K (by decide) dX6_isDigit_13 ?_
      exact g_zret K rfl dX6_isDigit_17 (bq1 (oi h)) rfl
set_option maxHeartbeats 4000000 in
set_option maxRecDepth 20000 in
theorem w_f_Tape_endOf {X : XT} {M : Mem} {a1 : Int32} {r : Int32}   (h : f_Tape_endOf M a1 = some r) : CT layX X 1 yX6_endOf cX6_endOf 5 (some .int) [.ref (X.2.2.2.1 13), .int a1] M M (some (.int r)) := by
  refine CT.of rfl (Nat.le_of_ble_eq_true rfl) (lv := [(0, .ref (X.2.2.2.1 13)), (1, .int a1)]) rfl (fun Γ K => ?_)
  have K : Kx layX X Γ RX6 cX6_endOf 5 1 (some .int) := K
  unfold f_Tape_endOf at h
  refine g_iload_n (pn := 1) K rfl 1 rfl dX6_endOf_0 ?_
  refine g_iconst (pn := 2) (v := 1) K rfl ic_1 dX6_endOf_1 ?_
  refine g_iadd (pn := 3) K rfl dX6_endOf_2 ?_
  refine g_nmi h (fun v1 h => ?_)
  refine g_istore_n (pn := 4) (lv' := [(2, .int v1), (0, .ref (X.2.2.2.1 13)), (1, .int a1)]) K rfl dX6_endOf_3 rfl (Nat.le_of_ble_eq_true rfl) rfl ?_
  refine g_aload_n (pn := 5) K rfl 1 rfl dX6_endOf_4 ?_
  refine g_getr (pn := 8) (j := 14) K rfl fl_X6_9 lx_13 rfl dX6_endOf_5 ?_
  refine g_iload_n (pn := 9) K rfl 2 rfl dX6_endOf_8 ?_
  refine g_iald (pn := 10) K rfl lx_14 dX6_endOf_9 h (fun h => ?_)
  obtain ⟨v3, hc2, h⟩ := ob_e h
  refine g_callS1 (pn := 13) (As := [.int (M 14 a1.toNatClampNeg)]) (rest := []) K rfl (d' := 0) (Nat.le_of_ble_eq_true rfl) ms_X6_42 (w_f_Tape_isLetter hc2) rfl rfl (Nat.le_of_ble_eq_true rfl) dX6_endOf_10 ?_
  refine g_istore_n (pn := 14) (lv' := [(3, .int (b2i v3)), (2, .int v1), (0, .ref (X.2.2.2.1 13)), (1, .int a1)]) K rfl dX6_endOf_13 rfl (Nat.le_of_ble_eq_true rfl) rfl ?_
  refine g_aload_n (pn := 15) K rfl 2 rfl dX6_endOf_14 ?_
  refine g_getr (pn := 18) (j := 14) K rfl fl_X6_9 lx_13 rfl dX6_endOf_15 ?_
  refine g_iload_n (pn := 19) K rfl 3 rfl dX6_endOf_18 ?_
  refine g_iald (pn := 20) K rfl lx_14 dX6_endOf_19 h (fun h => ?_)
  obtain ⟨v5, hc4, h⟩ := ob_e h
  refine g_callS1 (pn := 23) (As := [.int (M 14 a1.toNatClampNeg)]) (rest := []) K rfl (d' := 0) (Nat.le_of_ble_eq_true rfl) ms_X6_46 (w_f_Tape_isDigit hc4) rfl rfl (Nat.le_of_ble_eq_true rfl) dX6_endOf_20 ?_
  refine g_istore (pn := 25) (lv' := [(4, .int (b2i v5)), (3, .int (b2i v3)), (2, .int v1), (0, .ref (X.2.2.2.1 13)), (1, .int a1)]) K rfl dX6_endOf_23 (Nat.le_of_ble_eq_true rfl) rfl ?_
  refine jp_e1 h (fun v6 => G layX X Γ 5 (QM layX X Γ (some (.int r)) M) 79 [(2, .int v6)] [] M) (fun v6 h => ?_) (fun j7 hj7 h => ?_)
  · refine g_iload_n (pn := 80) K rfl 0 rfl dX6_endOf_79 ?_
    exact g_iret K dX6_endOf_80 (oi h) rfl
  have LP25 : ∀ (fu9 : Nat) (v8 : Int32), f_Tape_endOf_L25 M v3 v5 j7 fu9 v8 = some r → G layX X Γ 5 (QM layX X Γ (some (.int r)) M) 25 [(4, .int (b2i v5)), (3, .int (b2i v3)), (0, .ref (X.2.2.2.1 13)), (2, .int v8)] [] M := by
    intro fu9
    induction fu9 with
    | zero =>
      intro v8 h
      rw [f_Tape_endOf_L25] at h
      cases h
    | succ fu9 ih9 =>
      intro v8 h
      rw [f_Tape_endOf_L25] at h
      refine g_iload_n (pn := 26) K rfl 3 rfl dX6_endOf_25 ?_
      refine g_aload_n (pn := 27) K rfl 2 rfl dX6_endOf_26 ?_
      refine g_geti (pn := 30) K rfl fl_X6_15 lx_13 rfl dX6_endOf_27 ?_
      refine g_icmp_ge (tgt := 79) (pn := 33) K rfl (by decide) dX6_endOf_30 h (fun h => ?_) (fun h => ?_)
      · refine g_sub [3] rfl ?_
        exact hj7 _ h
      · refine g_iload_n (pn := 34) K rfl 3 rfl dX6_endOf_33 ?_
        refine g_sipush (pn := 37) (v := 160) K rfl sp_160 dX6_endOf_34 ?_
        refine g_icmp_ge (tgt := 79) (pn := 40) K rfl (by decide) dX6_endOf_37 h (fun h => ?_) (fun h => ?_)
        · refine g_sub [3] rfl ?_
          exact hj7 _ h
        · refine g_iload_n (pn := 41) K rfl 1 rfl dX6_endOf_40 ?_
          refine jp_e1 h (fun u10 => G layX X Γ 5 (QM layX X Γ (some (.int r)) M) 56 [(4, .int (b2i v5)), (3, .int (b2i v3)), (0, .ref (X.2.2.2.1 13)), (2, .int v8)] [] M) (fun u10 h => ?_) (fun j11 hj11 h => ?_)
          · refine g_iload (pn := 58) K rfl 0 rfl dX6_endOf_56 ?_
            refine g_ifB_eq (tgt := 79) (pn := 61) K rfl (by decide) dX6_endOf_58 h (fun h => ?_) (fun h => ?_)
            · refine g_sub [3] rfl ?_
              exact hj7 _ h
            · refine g_aload_n (pn := 62) K rfl 2 rfl dX6_endOf_61 ?_
              refine g_getr (pn := 65) (j := 14) K rfl fl_X6_9 lx_13 rfl dX6_endOf_62 ?_
              refine g_iload_n (pn := 66) K rfl 3 rfl dX6_endOf_65 ?_
              refine g_iald (pn := 67) K rfl lx_14 dX6_endOf_66 h (fun h => ?_)
              obtain ⟨v13, hc12, h⟩ := ob_e h
              refine g_callS1 (pn := 70) (As := [.int (M 14 v8.toNatClampNeg)]) (rest := []) K rfl (d' := 0) (Nat.le_of_ble_eq_true rfl) ms_X6_46 (w_f_Tape_isDigit hc12) rfl rfl (Nat.le_of_ble_eq_true rfl) dX6_endOf_67 ?_
              refine g_ifB_eq (tgt := 79) (pn := 73) K rfl (by decide) dX6_endOf_70 h (fun h => ?_) (fun h => ?_)
              · refine g_sub [3] rfl ?_
                exact hj7 _ h
              · obtain ⟨v14, ev14, h⟩ := bnd_e h
                refine g_iinc (pn := 76) (v := v14) (lv' := [(2, .int v14), (4, .int (b2i v5)), (3, .int (b2i v3)), (0, .ref (X.2.2.2.1 13))]) K rfl 3 rfl ii_1 ev14 dX6_endOf_73 (Nat.le_of_ble_eq_true rfl) rfl ?_
                refine g_goto (tgt := 25) K (by decide) dX6_endOf_76 ?_
                refine g_sub [1, 2, 3, 0] rfl ?_
                exact ih9 _ h
          refine g_ifB_eq (tgt := 56) (pn := 44) K rfl (by decide) dX6_endOf_41 h (fun h => ?_) (fun h => ?_)
          · exact hj11 _ h
          · refine g_aload_n (pn := 45) K rfl 2 rfl dX6_endOf_44 ?_
            refine g_getr (pn := 48) (j := 14) K rfl fl_X6_9 lx_13 rfl dX6_endOf_45 ?_
            refine g_iload_n (pn := 49) K rfl 3 rfl dX6_endOf_48 ?_
            refine g_iald (pn := 50) K rfl lx_14 dX6_endOf_49 h (fun h => ?_)
            obtain ⟨v16, hc15, h⟩ := ob_e h
            refine g_callS1 (pn := 53) (As := [.int (M 14 v8.toNatClampNeg)]) (rest := []) K rfl (d' := 0) (Nat.le_of_ble_eq_true rfl) ms_X6_42 (w_f_Tape_isLetter hc15) rfl rfl (Nat.le_of_ble_eq_true rfl) dX6_endOf_50 ?_
            refine g_ifB_ne (tgt := 73) (pn := 56) K rfl (by decide) dX6_endOf_53 h (fun h => ?_) (fun h => ?_)
            · obtain ⟨v17, ev17, h⟩ := bnd_e h
              refine g_iinc (pn := 76) (v := v17) (lv' := [(2, .int v17), (4, .int (b2i v5)), (3, .int (b2i v3)), (0, .ref (X.2.2.2.1 13))]) K rfl 3 rfl ii_1 ev17 dX6_endOf_73 (Nat.le_of_ble_eq_true rfl) rfl ?_
              refine g_goto (tgt := 25) K (by decide) dX6_endOf_76 ?_
              refine g_sub [1, 2, 3, 0] rfl ?_
              exact ih9 _ h
            · exact hj11 _ h
  refine g_sub [0, 1, 3, 2] rfl ?_
  exact LP25 FU _ h
set_option maxHeartbeats 4000000 in
set_option maxRecDepth 20000 in
theorem w_f_Tape_numberOf {X : XT} {M : Mem} {a1 : Int32} {a2 : Int32} {r : Int32}   (h : f_Tape_numberOf M a1 a2 = some r) : CT layX X 0 yX6_numberOf cX6_numberOf 5 (some .int) [.ref (X.2.2.2.1 13), .int a1, .int a2] M M (some (.int r)) := by
  refine CT.of rfl (Nat.le_of_ble_eq_true rfl) (lv := [(0, .ref (X.2.2.2.1 13)), (1, .int a1), (2, .int a2)]) rfl (fun Γ K => ?_)
  have K : Kx layX X Γ RX6 cX6_numberOf 5 0 (some .int) := K
  unfold f_Tape_numberOf at h
  refine g_iconst (pn := 1) (v := 0) K rfl ic_0 dX6_numberOf_0 ?_
  refine g_istore_n (pn := 2) (lv' := [(3, .int 0), (0, .ref (X.2.2.2.1 13)), (1, .int a1), (2, .int a2)]) K rfl dX6_numberOf_1 rfl (Nat.le_of_ble_eq_true rfl) rfl ?_
  refine g_iload_n (pn := 3) K rfl 2 rfl dX6_numberOf_2 ?_
  refine g_istore (pn := 5) (lv' := [(4, .int a1), (3, .int 0), (0, .ref (X.2.2.2.1 13)), (1, .int a1), (2, .int a2)]) K rfl dX6_numberOf_3 (Nat.le_of_ble_eq_true rfl) rfl ?_
  refine jp_e1 h (fun v1 => G layX X Γ 5 (QM layX X Γ (some (.int r)) M) 41 [(3, .int v1)] [] M) (fun v1 h => ?_) (fun j2 hj2 h => ?_)
  · refine g_iload_n (pn := 42) K rfl 0 rfl dX6_numberOf_41 ?_
    exact g_iret K dX6_numberOf_42 (oi h) rfl
  have LP5 : ∀ (fu5 : Nat) (v3 : Int32) (v4 : Int32), f_Tape_numberOf_L5 M a2 j2 fu5 v3 v4 = some r → G layX X Γ 5 (QM layX X Γ (some (.int r)) M) 5 [(0, .ref (X.2.2.2.1 13)), (2, .int a2), (3, .int v3), (4, .int v4)] [] M := by
    intro fu5
    induction fu5 with
    | zero =>
      intro v3 v4 h
      rw [f_Tape_numberOf_L5] at h
      cases h
    | succ fu5 ih5 =>
      intro v3 v4 h
      rw [f_Tape_numberOf_L5] at h
      refine g_iload (pn := 7) K rfl 3 rfl dX6_numberOf_5 ?_
      refine g_iload_n (pn := 8) K rfl 1 rfl dX6_numberOf_7 ?_
      refine g_icmp_ge (tgt := 41) (pn := 11) K rfl (by decide) dX6_numberOf_8 h (fun h => ?_) (fun h => ?_)
      · refine g_sub [2] rfl ?_
        exact hj2 _ h
      · refine g_iload (pn := 13) K rfl 3 rfl dX6_numberOf_11 ?_
        refine g_sipush (pn := 16) (v := 160) K rfl sp_160 dX6_numberOf_13 ?_
        refine g_icmp_ge (tgt := 41) (pn := 19) K rfl (by decide) dX6_numberOf_16 h (fun h => ?_) (fun h => ?_)
        · refine g_sub [2] rfl ?_
          exact hj2 _ h
        · refine g_iload_n (pn := 20) K rfl 2 rfl dX6_numberOf_19 ?_
          refine g_bipush (pn := 22) (v := 10) K rfl bp_10 dX6_numberOf_20 ?_
          refine g_imul (pn := 23) K rfl dX6_numberOf_22 ?_
          refine g_aload_n (pn := 24) K rfl 0 rfl dX6_numberOf_23 ?_
          refine g_getr (pn := 27) (j := 14) K rfl fl_X6_9 lx_13 rfl dX6_numberOf_24 ?_
          refine g_iload (pn := 29) K rfl 3 rfl dX6_numberOf_27 ?_
          refine g_iald (pn := 30) K rfl lx_14 dX6_numberOf_29 h (fun h => ?_)
          refine g_bipush (pn := 32) (v := 48) K rfl bp_48 dX6_numberOf_30 ?_
          refine g_isub (pn := 33) K rfl dX6_numberOf_32 ?_
          refine g_iadd (pn := 34) K rfl dX6_numberOf_33 ?_
          refine g_nmi h (fun v6 h => ?_)
          refine g_istore_n (pn := 35) (lv' := [(3, .int v6), (0, .ref (X.2.2.2.1 13)), (2, .int a2), (4, .int v4)]) K rfl dX6_numberOf_34 rfl (Nat.le_of_ble_eq_true rfl) rfl ?_
          obtain ⟨v7, ev7, h⟩ := bnd_e h
          refine g_iinc (pn := 38) (v := v7) (lv' := [(4, .int v7), (3, .int v6), (0, .ref (X.2.2.2.1 13)), (2, .int a2)]) K rfl 3 rfl ii_1 ev7 dX6_numberOf_35 (Nat.le_of_ble_eq_true rfl) rfl ?_
          refine g_goto (tgt := 5) K (by decide) dX6_numberOf_38 ?_
          refine g_sub [2, 3, 1, 0] rfl ?_
          exact ih5 _ _ h
  refine g_sub [2, 4, 1, 0] rfl ?_
  exact LP5 FU _ _ h
set_option maxHeartbeats 4000000 in
set_option maxRecDepth 20000 in
theorem w_f_Tape_spells {X : XT} {M : Mem} {j1 : Nat} {a2 : Int32} {a3 : Int32} {r : Bool} (hj1 : j1 < nS)  (h : f_Tape_spells M j1 a2 a3 = some r) : CT layX X 4 yX6_spells cX6_spells 5 (some .boolean) [.ref (X.2.2.2.1 13), .ref (X.2.2.2.1 (2000 + j1)), .int a2, .int a3] M M (some (.int (b2i r))) := by
  refine CT.of rfl (Nat.le_of_ble_eq_true rfl) (lv := [(0, .ref (X.2.2.2.1 13)), (1, .ref (X.2.2.2.1 (2000 + j1))), (2, .int a2), (3, .int a3)]) rfl (fun Γ K => ?_)
  have K : Kx layX X Γ RX6 cX6_spells 5 4 (some .boolean) := K
  unfold f_Tape_spells at h
  refine g_aload_n (pn := 1) K rfl 1 rfl dX6_spells_0 ?_
  obtain ⟨v2, hc1, h⟩ := ob_e h
  refine g_callV1 (pn := 4) (As := []) (rest := []) (a := (2000 + j1)) K rfl (d' := 1) (Nat.le_of_ble_eq_true rfl) mv_X6_64 (recvS K hj1) (w_f_JS_length0 hj1 hc1) rfl rfl (Nat.le_of_ble_eq_true rfl) dX6_spells_1 ?_
  refine g_iload_n (pn := 5) K rfl 3 rfl dX6_spells_4 ?_
  refine g_iload_n (pn := 6) K rfl 2 rfl dX6_spells_5 ?_
  refine g_isub (pn := 7) K rfl dX6_spells_6 ?_
  refine g_icmp_eq (tgt := 12) (pn := 10) K rfl (by decide) dX6_spells_7 h (fun h => ?_) (fun h => ?_)
  · refine g_iload_n (pn := 13) K rfl 2 rfl dX6_spells_12 ?_
    refine g_istore (pn := 15) (lv' := [(4, .int a2), (0, .ref (X.2.2.2.1 13)), (1, .ref (X.2.2.2.1 (2000 + j1))), (2, .int a2), (3, .int a3)]) K rfl dX6_spells_13 (Nat.le_of_ble_eq_true rfl) rfl ?_
    refine jp_e1 h (fun u3 => G layX X Γ 5 (QM layX X Γ (some (.int (b2i r))) M) 55 [] [] M) (fun u3 h => ?_) (fun j4 hj4 h => ?_)
    · refine g_iconst (pn := 56) (v := 1) K rfl ic_1 dX6_spells_55 ?_
      exact g_zret K rfl dX6_spells_56 (bq1 (oi h)) rfl
    have LP15 : ∀ (fu6 : Nat) (v5 : Int32), f_Tape_spells_L15 M j1 a2 a3 j4 fu6 v5 = some r → G layX X Γ 5 (QM layX X Γ (some (.int (b2i r))) M) 15 [(0, .ref (X.2.2.2.1 13)), (1, .ref (X.2.2.2.1 (2000 + j1))), (2, .int a2), (3, .int a3), (4, .int v5)] [] M := by
      intro fu6
      induction fu6 with
      | zero =>
        intro v5 h
        rw [f_Tape_spells_L15] at h
        cases h
      | succ fu6 ih6 =>
        intro v5 h
        rw [f_Tape_spells_L15] at h
        refine g_iload (pn := 17) K rfl 4 rfl dX6_spells_15 ?_
        refine g_iload_n (pn := 18) K rfl 3 rfl dX6_spells_17 ?_
        refine g_icmp_ge (tgt := 55) (pn := 21) K rfl (by decide) dX6_spells_18 h (fun h => ?_) (fun h => ?_)
        · refine g_sub [] rfl ?_
          exact hj4 _ h
        · refine g_iload (pn := 23) K rfl 4 rfl dX6_spells_21 ?_
          refine g_sipush (pn := 26) (v := 160) K rfl sp_160 dX6_spells_23 ?_
          refine g_icmp_ge (tgt := 55) (pn := 29) K rfl (by decide) dX6_spells_26 h (fun h => ?_) (fun h => ?_)
          · refine g_sub [] rfl ?_
            exact hj4 _ h
          · refine g_aload_n (pn := 30) K rfl 1 rfl dX6_spells_29 ?_
            refine g_iload (pn := 32) K rfl 4 rfl dX6_spells_30 ?_
            refine g_iload_n (pn := 33) K rfl 2 rfl dX6_spells_32 ?_
            refine g_isub (pn := 34) K rfl dX6_spells_33 ?_
            obtain ⟨v8, hc7, h⟩ := ob_e h
            refine g_callV1 (pn := 37) (As := [.int (v5 - a2)]) (rest := []) (a := (2000 + j1)) K rfl (d' := 3) (Nat.le_of_ble_eq_true rfl) mv_X6_68 (recvS K hj1) (w_f_JS_charAt1 hj1 hc7) rfl rfl (Nat.le_of_ble_eq_true rfl) dX6_spells_34 ?_
            refine g_aload_n (pn := 38) K rfl 0 rfl dX6_spells_37 ?_
            refine g_getr (pn := 41) (j := 14) K rfl fl_X6_9 lx_13 rfl dX6_spells_38 ?_
            refine g_iload (pn := 43) K rfl 4 rfl dX6_spells_41 ?_
            refine g_iald (pn := 44) K rfl lx_14 dX6_spells_43 h (fun h => ?_)
            refine g_icmp_eq (tgt := 49) (pn := 47) K rfl (by decide) dX6_spells_44 h (fun h => ?_) (fun h => ?_)
            · obtain ⟨v9, ev9, h⟩ := bnd_e h
              refine g_iinc (pn := 52) (v := v9) (lv' := [(4, .int v9), (0, .ref (X.2.2.2.1 13)), (1, .ref (X.2.2.2.1 (2000 + j1))), (2, .int a2), (3, .int a3)]) K rfl 4 rfl ii_1 ev9 dX6_spells_49 (Nat.le_of_ble_eq_true rfl) rfl ?_
              refine g_goto (tgt := 15) K (by decide) dX6_spells_52 ?_
              refine g_sub [1, 2, 3, 4, 0] rfl ?_
              exact ih6 _ h
            · refine g_iconst (pn := 48) (v := 0) K rfl ic_0 dX6_spells_47 ?_
              exact g_zret K rfl dX6_spells_48 (bq0 (oi h)) rfl
    refine g_sub [1, 2, 3, 4, 0] rfl ?_
    exact LP15 FU _ h
  · refine g_iconst (pn := 11) (v := 0) K rfl ic_0 dX6_spells_10 ?_
    exact g_zret K rfl dX6_spells_11 (bq0 (oi h)) rfl
set_option maxHeartbeats 4000000 in
set_option maxRecDepth 20000 in
theorem w_f_Tape_wordOf {X : XT} {M : Mem} {a1 : Int32} {r : Nat}   (h : f_Tape_wordOf a1 = some r) : CT layX X 0 yX6_wordOf cX6_wordOf 1 (some (.object "java/lang/String")) [.int a1] M M (some (.ref (X.2.2.2.1 (2000 + r)))) := by
  refine CT.of rfl (Nat.le_of_ble_eq_true rfl) (lv := [(0, .int a1)]) rfl (fun Γ K => ?_)
  have K : Kx layX X Γ RX6 cX6_wordOf 1 0 (some (.object "java/lang/String")) := K
  unfold f_Tape_wordOf at h
  refine g_iload_n (pn := 1) K rfl 0 rfl dX6_wordOf_0 ?_
  rcases Decidable.em (a1 = 1) with hs | hs0
  · replace h := (ite_e h).1 hs
    refine g_tsw (tgt := 60) (v := 1) (off := 59) K hs (by decide) (by decide) (by decide) (by decide) dX6_wordOf_1 ?_
    refine g_ldcS (pn := 62) (i := 2) (tx := "warm") K rfl rfl dX6_wordOf_60 ?_
    exact g_aret K (Or.inl ⟨_, rfl⟩) (Or.inr ⟨_, rfl⟩) dX6_wordOf_62 (by rw [oi h]) rfl
  · replace h := (ite_e h).2 hs0
    rcases Decidable.em (a1 = 2) with hs | hs1
    · replace h := (ite_e h).1 hs
      refine g_tsw (tgt := 63) (v := 2) (off := 62) K hs (by decide) (by decide) (by decide) (by decide) dX6_wordOf_1 ?_
      refine g_ldcS (pn := 65) (i := 3) (tx := "age") K rfl rfl dX6_wordOf_63 ?_
      exact g_aret K (Or.inl ⟨_, rfl⟩) (Or.inr ⟨_, rfl⟩) dX6_wordOf_65 (by rw [oi h]) rfl
    · replace h := (ite_e h).2 hs1
      rcases Decidable.em (a1 = 3) with hs | hs2
      · replace h := (ite_e h).1 hs
        refine g_tsw (tgt := 66) (v := 3) (off := 65) K hs (by decide) (by decide) (by decide) (by decide) dX6_wordOf_1 ?_
        refine g_ldcS (pn := 68) (i := 4) (tx := "dirt") K rfl rfl dX6_wordOf_66 ?_
        exact g_aret K (Or.inl ⟨_, rfl⟩) (Or.inr ⟨_, rfl⟩) dX6_wordOf_68 (by rw [oi h]) rfl
      · replace h := (ite_e h).2 hs2
        rcases Decidable.em (a1 = 4) with hs | hs3
        · replace h := (ite_e h).1 hs
          refine g_tsw (tgt := 69) (v := 4) (off := 68) K hs (by decide) (by decide) (by decide) (by decide) dX6_wordOf_1 ?_
          refine g_ldcS (pn := 71) (i := 5) (tx := "yards") K rfl rfl dX6_wordOf_69 ?_
          exact g_aret K (Or.inl ⟨_, rfl⟩) (Or.inr ⟨_, rfl⟩) dX6_wordOf_71 (by rw [oi h]) rfl
        · replace h := (ite_e h).2 hs3
          rcases Decidable.em (a1 = 5) with hs | hs4
          · replace h := (ite_e h).1 hs
            refine g_tsw (tgt := 72) (v := 5) (off := 71) K hs (by decide) (by decide) (by decide) (by decide) dX6_wordOf_1 ?_
            refine g_ldcS (pn := 74) (i := 6) (tx := "off") K rfl rfl dX6_wordOf_72 ?_
            exact g_aret K (Or.inl ⟨_, rfl⟩) (Or.inr ⟨_, rfl⟩) dX6_wordOf_74 (by rw [oi h]) rfl
          · replace h := (ite_e h).2 hs4
            rcases Decidable.em (a1 = 6) with hs | hs5
            · replace h := (ite_e h).1 hs
              refine g_tsw (tgt := 75) (v := 6) (off := 74) K hs (by decide) (by decide) (by decide) (by decide) dX6_wordOf_1 ?_
              refine g_ldcS (pn := 77) (i := 7) (tx := "number") K rfl rfl dX6_wordOf_75 ?_
              exact g_aret K (Or.inl ⟨_, rfl⟩) (Or.inr ⟨_, rfl⟩) dX6_wordOf_77 (by rw [oi h]) rfl
            · replace h := (ite_e h).2 hs5
              rcases Decidable.em (a1 = 7) with hs | hs6
              · replace h := (ite_e h).1 hs
                refine g_tsw (tgt := 78) (v := 7) (off := 77) K hs (by decide) (by decide) (by decide) (by decide) dX6_wordOf_1 ?_
                refine g_ldcS (pn := 80) (i := 8) (tx := "ripens") K rfl rfl dX6_wordOf_78 ?_
                exact g_aret K (Or.inl ⟨_, rfl⟩) (Or.inr ⟨_, rfl⟩) dX6_wordOf_80 (by rw [oi h]) rfl
              · replace h := (ite_e h).2 hs6
                rcases Decidable.em (a1 = 8) with hs | hs7
                · replace h := (ite_e h).1 hs
                  refine g_tsw (tgt := 81) (v := 8) (off := 80) K hs (by decide) (by decide) (by decide) (by decide) dX6_wordOf_1 ?_
                  refine g_ldcS (pn := 83) (i := 9) (tx := "takes") K rfl rfl dX6_wordOf_81 ?_
                  exact g_aret K (Or.inl ⟨_, rfl⟩) (Or.inr ⟨_, rfl⟩) dX6_wordOf_83 (by rw [oi h]) rfl
                · replace h := (ite_e h).2 hs7
                  rcases Decidable.em (a1 = 9) with hs | hs8
                  · replace h := (ite_e h).1 hs
                    refine g_tsw (tgt := 84) (v := 9) (off := 83) K hs (by decide) (by decide) (by decide) (by decide) dX6_wordOf_1 ?_
                    refine g_ldcS (pn := 86) (i := 10) (tx := "spoils") K rfl rfl dX6_wordOf_84 ?_
                    exact g_aret K (Or.inl ⟨_, rfl⟩) (Or.inr ⟨_, rfl⟩) dX6_wordOf_86 (by rw [oi h]) rfl
                  · replace h := (ite_e h).2 hs8
                    rcases Decidable.em (a1 = 10) with hs | hs9
                    · replace h := (ite_e h).1 hs
                      refine g_tsw (tgt := 87) (v := 10) (off := 86) K hs (by decide) (by decide) (by decide) (by decide) dX6_wordOf_1 ?_
                      refine g_ldcS (pn := 89) (i := 11) (tx := "or") K rfl rfl dX6_wordOf_87 ?_
                      exact g_aret K (Or.inl ⟨_, rfl⟩) (Or.inr ⟨_, rfl⟩) dX6_wordOf_89 (by rw [oi h]) rfl
                    · replace h := (ite_e h).2 hs9
                      rcases Decidable.em (a1 = 11) with hs | hs10
                      · replace h := (ite_e h).1 hs
                        refine g_tsw (tgt := 90) (v := 11) (off := 89) K hs (by decide) (by decide) (by decide) (by decide) dX6_wordOf_1 ?_
                        refine g_ldcS (pn := 92) (i := 12) (tx := "and") K rfl rfl dX6_wordOf_90 ?_
                        exact g_aret K (Or.inl ⟨_, rfl⟩) (Or.inr ⟨_, rfl⟩) dX6_wordOf_92 (by rw [oi h]) rfl
                      · replace h := (ite_e h).2 hs10
                        refine g_tswD (tgt := 93) K [1, 2, 3, 4, 5, 6, 7, 8, 9, 10, 11] (by decide) (by decide) (by simp only [List.forall_mem_cons]; exact ⟨hs0, hs1, hs2, hs3, hs4, hs5, hs6, hs7, hs8, hs9, hs10, fun _ h => absurd h List.not_mem_nil⟩) (by decide) dX6_wordOf_1 ?_
                        refine g_ldcS (pn := 95) (i := 13) (tx := "not") K rfl rfl dX6_wordOf_93 ?_
                        exact g_aret K (Or.inl ⟨_, rfl⟩) (Or.inr ⟨_, rfl⟩) dX6_wordOf_95 (by rw [oi h]) rfl
set_option maxHeartbeats 4000000 in
set_option maxRecDepth 20000 in
theorem w_f_Tape_tokenOf {X : XT} {M : Mem} {a1 : Int32} {a2 : Int32} {r : Int32}   (h : f_Tape_tokenOf M a1 a2 = some r) : CT layX X 5 yX6_tokenOf cX6_tokenOf 5 (some .int) [.ref (X.2.2.2.1 13), .int a1, .int a2] M M (some (.int r)) := by
  refine CT.of rfl (Nat.le_of_ble_eq_true rfl) (lv := [(0, .ref (X.2.2.2.1 13)), (1, .int a1), (2, .int a2)]) rfl (fun Γ K => ?_)
  have K : Kx layX X Γ RX6 cX6_tokenOf 5 5 (some .int) := K
  unfold f_Tape_tokenOf at h
  refine g_aload_n (pn := 1) K rfl 0 rfl dX6_tokenOf_0 ?_
  refine g_getr (pn := 4) (j := 14) K rfl fl_X6_9 lx_13 rfl dX6_tokenOf_1 ?_
  refine g_iload_n (pn := 5) K rfl 1 rfl dX6_tokenOf_4 ?_
  refine g_iald (pn := 6) K rfl lx_14 dX6_tokenOf_5 h (fun h => ?_)
  refine g_nmi h (fun v1 h => ?_)
  refine g_istore_n (pn := 7) (lv' := [(3, .int v1), (0, .ref (X.2.2.2.1 13)), (1, .int a1), (2, .int a2)]) K rfl dX6_tokenOf_6 rfl (Nat.le_of_ble_eq_true rfl) rfl ?_
  refine g_iload_n (pn := 8) K rfl 0 rfl dX6_tokenOf_7 ?_
  obtain ⟨v3, hc2, h⟩ := ob_e h
  refine g_callS1 (pn := 11) (As := [.int v1]) (rest := []) K rfl (d' := 0) (Nat.le_of_ble_eq_true rfl) ms_X6_46 (w_f_Tape_isDigit hc2) rfl rfl (Nat.le_of_ble_eq_true rfl) dX6_tokenOf_8 ?_
  refine g_ifB_eq (tgt := 29) (pn := 14) K rfl (by decide) dX6_tokenOf_11 h (fun h => ?_) (fun h => ?_)
  · refine g_iload_n (pn := 30) K rfl 0 rfl dX6_tokenOf_29 ?_
    obtain ⟨v5, hc4, h⟩ := ob_e h
    refine g_callS1 (pn := 33) (As := [.int v1]) (rest := []) K rfl (d' := 0) (Nat.le_of_ble_eq_true rfl) ms_X6_42 (w_f_Tape_isLetter hc4) rfl rfl (Nat.le_of_ble_eq_true rfl) dX6_tokenOf_30 ?_
    refine g_ifB_ne (tgt := 53) (pn := 36) K rfl (by decide) dX6_tokenOf_33 h (fun h => ?_) (fun h => ?_)
    · refine g_iconst (pn := 54) (v := 1) K rfl ic_1 dX6_tokenOf_53 ?_
      refine g_istore (pn := 56) (lv' := [(4, .int 1), (3, .int v1), (0, .ref (X.2.2.2.1 13)), (1, .int a1), (2, .int a2)]) K rfl dX6_tokenOf_54 (Nat.le_of_ble_eq_true rfl) rfl ?_
      refine jp_e1 h (fun u6 => G layX X Γ 5 (QM layX X Γ (some (.int r)) M) 86 [] [] M) (fun u6 h => ?_) (fun j7 hj7 h => ?_)
      · refine g_bipush (pn := 88) (v := 15) K rfl bp_15 dX6_tokenOf_86 ?_
        exact g_iret K dX6_tokenOf_88 (oi h) rfl
      have LP56 : ∀ (fu9 : Nat) (v8 : Int32), f_Tape_tokenOf_L56 M a1 a2 j7 fu9 v8 = some r → G layX X Γ 5 (QM layX X Γ (some (.int r)) M) 56 [(0, .ref (X.2.2.2.1 13)), (1, .int a1), (2, .int a2), (4, .int v8)] [] M := by
        intro fu9
        induction fu9 with
        | zero =>
          intro v8 h
          rw [f_Tape_tokenOf_L56] at h
          cases h
        | succ fu9 ih9 =>
          intro v8 h
          rw [f_Tape_tokenOf_L56] at h
          refine g_iload (pn := 58) K rfl 3 rfl dX6_tokenOf_56 ?_
          refine g_bipush (pn := 60) (v := 12) K rfl bp_12 dX6_tokenOf_58 ?_
          refine g_icmp_gt (tgt := 86) (pn := 63) K rfl (by decide) dX6_tokenOf_60 h (fun h => ?_) (fun h => ?_)
          · refine g_sub [] rfl ?_
            exact hj7 _ h
          · refine g_aload_n (pn := 64) K rfl 0 rfl dX6_tokenOf_63 ?_
            refine g_iload (pn := 66) K rfl 3 rfl dX6_tokenOf_64 ?_
            obtain ⟨v11, hc10, h⟩ := ob_e h
            refine g_callS1 (pn := 69) (As := [.int v8]) (rest := [.ref (X.2.2.2.1 13)]) K rfl (d' := 0) (Nat.le_of_ble_eq_true rfl) ms_X6_56 (w_f_Tape_wordOf hc10) rfl rfl (Nat.le_of_ble_eq_true rfl) dX6_tokenOf_66 ?_
            refine g_iload_n (pn := 70) K rfl 1 rfl dX6_tokenOf_69 ?_
            refine g_iload_n (pn := 71) K rfl 2 rfl dX6_tokenOf_70 ?_
            obtain ⟨v13, hc12, h⟩ := ob_e h
            refine g_callV1 (pn := 74) (As := [.ref (X.2.2.2.1 (2000 + v11)), .int a1, .int a2]) (rest := []) (a := 13) K rfl (d' := 4) (Nat.le_of_ble_eq_true rfl) mv_X6_60 (recvO K lx_13 rfl) (w_f_Tape_spells (wordOf_lt hc10) hc12) rfl rfl (Nat.le_of_ble_eq_true rfl) dX6_tokenOf_71 ?_
            refine g_ifB_eq (tgt := 80) (pn := 77) K rfl (by decide) dX6_tokenOf_74 h (fun h => ?_) (fun h => ?_)
            · obtain ⟨v14, ev14, h⟩ := bnd_e h
              refine g_iinc (pn := 83) (v := v14) (lv' := [(4, .int v14), (0, .ref (X.2.2.2.1 13)), (1, .int a1), (2, .int a2)]) K rfl 3 rfl ii_1 ev14 dX6_tokenOf_80 (Nat.le_of_ble_eq_true rfl) rfl ?_
              refine g_goto (tgt := 56) K (by decide) dX6_tokenOf_83 ?_
              refine g_sub [1, 2, 3, 0] rfl ?_
              exact ih9 _ h
            · refine g_iload (pn := 79) K rfl 3 rfl dX6_tokenOf_77 ?_
              exact g_iret K dX6_tokenOf_79 (oi h) rfl
      refine g_sub [2, 3, 4, 0] rfl ?_
      exact LP56 FU _ h
    · refine g_ldcS (pn := 38) (i := 1) (tx := "();+-*<=") K rfl rfl dX6_tokenOf_36 ?_
      refine g_iload_n (pn := 39) K rfl 0 rfl dX6_tokenOf_38 ?_
      refine g_i2c (pn := 40) K rfl dX6_tokenOf_39 ?_
      obtain ⟨v16, hc15, h⟩ := ob_e h
      refine g_callV1 (pn := 43) (As := [.int (v1.toUInt32 % 65536).toInt32]) (rest := []) (a := (2000 + 1)) K rfl (d' := 3) (Nat.le_of_ble_eq_true rfl) mv_X6_51 (recvS K (by decide)) (w_f_JS_indexOf1 (by decide) hc15) rfl rfl (Nat.le_of_ble_eq_true rfl) dX6_tokenOf_40 ?_
      refine g_if_lt (tgt := 50) (pn := 46) K rfl (by decide) dX6_tokenOf_43 h (fun h => ?_) (fun h => ?_)
      · refine g_bipush (pn := 52) (v := 15) K rfl bp_15 dX6_tokenOf_50 ?_
        exact g_iret K dX6_tokenOf_52 (oi h) rfl
      · refine g_iload_n (pn := 47) K rfl 0 rfl dX6_tokenOf_46 ?_
        refine g_goto (tgt := 52) K (by decide) dX6_tokenOf_47 ?_
        exact g_iret K dX6_tokenOf_52 (oi h) rfl
  · refine g_iload_n (pn := 15) K rfl 3 rfl dX6_tokenOf_14 ?_
    refine g_iload_n (pn := 16) K rfl 2 rfl dX6_tokenOf_15 ?_
    refine g_isub (pn := 17) K rfl dX6_tokenOf_16 ?_
    refine g_iconst (pn := 18) (v := 4) K rfl ic_4 dX6_tokenOf_17 ?_
    refine g_icmp_le (tgt := 26) (pn := 21) K rfl (by decide) dX6_tokenOf_18 h (fun h => ?_) (fun h => ?_)
    · refine g_bipush (pn := 28) (v := 13) K rfl bp_13 dX6_tokenOf_26 ?_
      exact g_iret K dX6_tokenOf_28 (oi h) rfl
    · refine g_bipush (pn := 23) (v := 15) K rfl bp_15 dX6_tokenOf_21 ?_
      refine g_goto (tgt := 28) K (by decide) dX6_tokenOf_23 ?_
      exact g_iret K dX6_tokenOf_28 (oi h) rfl
set_option maxHeartbeats 4000000 in
set_option maxRecDepth 20000 in
theorem w_f_Tape_cut {X : XT} {M : Mem}  {M' : Mem}   (h : f_Tape_cut M = some M') : CT layX X 6 yX6_cut cX6_cut 4 none [.ref (X.2.2.2.1 13)] M M' none := by
  refine CT.of rfl (Nat.le_of_ble_eq_true rfl) (lv := [(0, .ref (X.2.2.2.1 13))]) rfl (fun Γ K => ?_)
  have K : Kx layX X Γ RX6 cX6_cut 4 6 none := K
  unfold f_Tape_cut at h
  refine g_aload_n (pn := 1) K rfl 0 rfl dX6_cut_0 ?_
  refine g_iconst (pn := 2) (v := 0) K rfl ic_0 dX6_cut_1 ?_
  refine g_puti (pn := 5) K rfl fp_X6_28 lx_13 rfl dX6_cut_2 h (fun M1 h => ?_)
  refine g_iconst (pn := 6) (v := 0) K rfl ic_0 dX6_cut_5 ?_
  refine g_istore_n (pn := 7) (lv' := [(1, .int 0), (0, .ref (X.2.2.2.1 13))]) K rfl dX6_cut_6 rfl (Nat.le_of_ble_eq_true rfl) rfl ?_
  refine jp_e1 h (fun M2 => G layX X Γ 4 (QM layX X Γ none M') 124 [(0, .ref (X.2.2.2.1 13))] [] M2) (fun M2 h => ?_) (fun j3 hj3 h => ?_)
  · refine g_aload_n (pn := 125) K rfl 0 rfl dX6_cut_124 ?_
    refine g_getr (pn := 128) (j := 15) K rfl fl_X6_19 lx_13 rfl dX6_cut_125 ?_
    refine g_aload_n (pn := 129) K rfl 0 rfl dX6_cut_128 ?_
    refine g_geti (pn := 132) K rfl fl_X6_28 lx_13 rfl dX6_cut_129 ?_
    refine g_bipush (pn := 134) (v := 14) K rfl bp_14 dX6_cut_132 ?_
    refine g_iast (pn := 135) K rfl lx_15 dX6_cut_134 h (fun M4 h => ?_)
    refine g_aload_n (pn := 136) K rfl 0 rfl dX6_cut_135 ?_
    refine g_getr (pn := 139) (j := 16) K rfl fl_X6_22 lx_13 rfl dX6_cut_136 ?_
    refine g_aload_n (pn := 140) K rfl 0 rfl dX6_cut_139 ?_
    refine g_geti (pn := 143) K rfl fl_X6_28 lx_13 rfl dX6_cut_140 ?_
    refine g_aload_n (pn := 144) K rfl 0 rfl dX6_cut_143 ?_
    refine g_geti (pn := 147) K rfl fl_X6_15 lx_13 rfl dX6_cut_144 ?_
    refine g_iast (pn := 148) K rfl lx_16 dX6_cut_147 h (fun M5 h => ?_)
    exact g_vret K dX6_cut_148 (oi h)
  have LP7 : ∀ (fu8 : Nat) (v6 : Int32) (M7 : Mem), f_Tape_cut_L7 j3 fu8 v6 M7 = some M' → G layX X Γ 4 (QM layX X Γ none M') 7 [(0, .ref (X.2.2.2.1 13)), (1, .int v6)] [] M7 := by
    intro fu8
    induction fu8 with
    | zero =>
      intro v6 M7 h
      rw [f_Tape_cut_L7] at h
      cases h
    | succ fu8 ih8 =>
      intro v6 M7 h
      rw [f_Tape_cut_L7] at h
      refine g_iload_n (pn := 8) K rfl 1 rfl dX6_cut_7 ?_
      refine g_aload_n (pn := 9) K rfl 0 rfl dX6_cut_8 ?_
      refine g_geti (pn := 12) K rfl fl_X6_15 lx_13 rfl dX6_cut_9 ?_
      refine g_icmp_ge (tgt := 124) (pn := 15) K rfl (by decide) dX6_cut_12 h (fun h => ?_) (fun h => ?_)
      · refine g_sub [0] rfl ?_
        exact hj3 _ h
      · refine g_iload_n (pn := 16) K rfl 1 rfl dX6_cut_15 ?_
        refine g_sipush (pn := 19) (v := 160) K rfl sp_160 dX6_cut_16 ?_
        refine g_icmp_ge (tgt := 124) (pn := 22) K rfl (by decide) dX6_cut_19 h (fun h => ?_) (fun h => ?_)
        · refine g_sub [0] rfl ?_
          exact hj3 _ h
        · refine g_aload_n (pn := 23) K rfl 0 rfl dX6_cut_22 ?_
          refine g_getr (pn := 26) (j := 14) K rfl fl_X6_9 lx_13 rfl dX6_cut_23 ?_
          refine g_iload_n (pn := 27) K rfl 1 rfl dX6_cut_26 ?_
          refine g_iald (pn := 28) K rfl lx_14 dX6_cut_27 h (fun h => ?_)
          refine g_nmi h (fun v9 h => ?_)
          refine g_istore_n (pn := 29) (lv' := [(2, .int v9), (0, .ref (X.2.2.2.1 13)), (1, .int v6)]) K rfl dX6_cut_28 rfl (Nat.le_of_ble_eq_true rfl) rfl ?_
          refine g_iload_n (pn := 30) K rfl 2 rfl dX6_cut_29 ?_
          refine g_iconst (pn := 31) (v := 1) K rfl ic_1 dX6_cut_30 ?_
          refine g_iadd (pn := 32) K rfl dX6_cut_31 ?_
          refine g_nmi h (fun v10 h => ?_)
          refine g_istore_n (pn := 33) (lv' := [(3, .int v10), (2, .int v9), (0, .ref (X.2.2.2.1 13)), (1, .int v6)]) K rfl dX6_cut_32 rfl (Nat.le_of_ble_eq_true rfl) rfl ?_
          refine g_iload_n (pn := 34) K rfl 1 rfl dX6_cut_33 ?_
          refine g_bipush (pn := 36) (v := 32) K rfl bp_32 dX6_cut_34 ?_
          refine jp_e2 h (fun v11 M12 => G layX X Γ 4 (QM layX X Γ none M') 119 [(0, .ref (X.2.2.2.1 13)), (3, .int v11)] [] M12) (fun v11 M12 h => ?_) (fun j13 hj13 h => ?_)
          · refine g_iload_n (pn := 120) K rfl 1 rfl dX6_cut_119 ?_
            refine g_istore_n (pn := 121) (lv' := [(1, .int v11), (0, .ref (X.2.2.2.1 13)), (3, .int v11)]) K rfl dX6_cut_120 rfl (Nat.le_of_ble_eq_true rfl) rfl ?_
            refine g_goto (tgt := 7) K (by decide) dX6_cut_121 ?_
            refine g_sub [1, 0] rfl ?_
            exact ih8 _ _ h
          refine g_icmp_eq (tgt := 119) (pn := 39) K rfl (by decide) dX6_cut_36 h (fun h => ?_) (fun h => ?_)
          · refine g_sub [2, 0] rfl ?_
            exact hj13 _ _ h
          · refine g_iload_n (pn := 40) K rfl 1 rfl dX6_cut_39 ?_
            refine g_bipush (pn := 42) (v := 10) K rfl bp_10 dX6_cut_40 ?_
            refine g_icmp_eq (tgt := 119) (pn := 45) K rfl (by decide) dX6_cut_42 h (fun h => ?_) (fun h => ?_)
            · refine g_sub [2, 0] rfl ?_
              exact hj13 _ _ h
            · refine g_aload_n (pn := 46) K rfl 2 rfl dX6_cut_45 ?_
              refine g_iload_n (pn := 47) K rfl 3 rfl dX6_cut_46 ?_
              obtain ⟨v15, hc14, h⟩ := ob_e h
              refine g_callV1 (pn := 50) (As := [.int v6]) (rest := []) (a := 13) K rfl (d' := 1) (Nat.le_of_ble_eq_true rfl) mv_X6_31 (recvO K lx_13 rfl) (w_f_Tape_endOf hc14) rfl rfl (Nat.le_of_ble_eq_true rfl) dX6_cut_47 ?_
              refine g_istore_n (pn := 51) (lv' := [(3, .int v15), (2, .int v9), (0, .ref (X.2.2.2.1 13)), (1, .int v6)]) K rfl dX6_cut_50 rfl (Nat.le_of_ble_eq_true rfl) rfl ?_
              refine g_aload_n (pn := 52) K rfl 2 rfl dX6_cut_51 ?_
              refine g_getr (pn := 55) (j := 15) K rfl fl_X6_19 lx_13 rfl dX6_cut_52 ?_
              refine g_aload_n (pn := 56) K rfl 2 rfl dX6_cut_55 ?_
              refine g_geti (pn := 59) K rfl fl_X6_28 lx_13 rfl dX6_cut_56 ?_
              refine g_aload_n (pn := 60) K rfl 2 rfl dX6_cut_59 ?_
              refine g_iload_n (pn := 61) K rfl 3 rfl dX6_cut_60 ?_
              refine g_iload_n (pn := 62) K rfl 0 rfl dX6_cut_61 ?_
              obtain ⟨v17, hc16, h⟩ := ob_e h
              refine g_callV1 (pn := 65) (As := [.int v6, .int v15]) (rest := [.int (M7 13 5), .ref (X.2.2.2.1 15)]) (a := 13) K rfl (d' := 5) (Nat.le_of_ble_eq_true rfl) mv_X6_35 (recvO K lx_13 rfl) (w_f_Tape_tokenOf hc16) rfl rfl (Nat.le_of_ble_eq_true rfl) dX6_cut_62 ?_
              refine g_iast (pn := 66) K rfl lx_15 dX6_cut_65 h (fun M18 h => ?_)
              refine g_aload_n (pn := 67) K rfl 2 rfl dX6_cut_66 ?_
              refine g_getr (pn := 70) (j := 16) K rfl fl_X6_22 lx_13 rfl dX6_cut_67 ?_
              refine g_aload_n (pn := 71) K rfl 2 rfl dX6_cut_70 ?_
              refine g_geti (pn := 74) K rfl fl_X6_28 lx_13 rfl dX6_cut_71 ?_
              refine g_iload_n (pn := 75) K rfl 3 rfl dX6_cut_74 ?_
              refine g_iast (pn := 76) K rfl lx_16 dX6_cut_75 h (fun M19 h => ?_)
              refine g_aload_n (pn := 77) K rfl 2 rfl dX6_cut_76 ?_
              refine g_getr (pn := 80) (j := 17) K rfl fl_X6_25 lx_13 rfl dX6_cut_77 ?_
              refine g_aload_n (pn := 81) K rfl 2 rfl dX6_cut_80 ?_
              refine g_geti (pn := 84) K rfl fl_X6_28 lx_13 rfl dX6_cut_81 ?_
              refine g_aload_n (pn := 85) K rfl 2 rfl dX6_cut_84 ?_
              refine g_getr (pn := 88) (j := 15) K rfl fl_X6_19 lx_13 rfl dX6_cut_85 ?_
              refine g_aload_n (pn := 89) K rfl 2 rfl dX6_cut_88 ?_
              refine g_geti (pn := 92) K rfl fl_X6_28 lx_13 rfl dX6_cut_89 ?_
              refine g_iald (pn := 93) K rfl lx_15 dX6_cut_92 h (fun h => ?_)
              refine g_bipush (pn := 95) (v := 13) K rfl bp_13 dX6_cut_93 ?_
              refine jp_e1 h (fun v20 => G layX X Γ 4 (QM layX X Γ none M') 108 [(3, .int v15), (0, .ref (X.2.2.2.1 13))] [.int v20, .int (M19 13 5), .ref (X.2.2.2.1 17)] M19) (fun v20 h => ?_) (fun j21 hj21 h => ?_)
              · refine g_iast (pn := 109) K rfl lx_17 dX6_cut_108 h (fun M22 h => ?_)
                refine g_aload_n (pn := 110) K rfl 1 rfl dX6_cut_109 ?_
                refine g_dup (pn := 111) K rfl rfl dX6_cut_110 ?_
                refine g_geti (pn := 114) K rfl fl_X6_28 lx_13 rfl dX6_cut_111 ?_
                refine g_iconst (pn := 115) (v := 1) K rfl ic_1 dX6_cut_114 ?_
                refine g_iadd (pn := 116) K rfl dX6_cut_115 ?_
                refine g_puti (pn := 119) K rfl fp_X6_28 lx_13 rfl dX6_cut_116 h (fun M23 h => ?_)
                refine g_sub [1, 0] rfl ?_
                exact hj13 _ _ h
              refine g_icmp_ne (tgt := 107) (pn := 98) K rfl (by decide) dX6_cut_95 h (fun h => ?_) (fun h => ?_)
              · refine g_iconst (pn := 108) (v := 0) K rfl ic_0 dX6_cut_107 ?_
                refine g_sub [0, 2] rfl ?_
                exact hj21 _ h
              · refine g_aload_n (pn := 99) K rfl 2 rfl dX6_cut_98 ?_
                refine g_iload_n (pn := 100) K rfl 3 rfl dX6_cut_99 ?_
                refine g_iload_n (pn := 101) K rfl 0 rfl dX6_cut_100 ?_
                obtain ⟨v25, hc24, h⟩ := ob_e h
                refine g_callV1 (pn := 104) (As := [.int v6, .int v15]) (rest := [.int (M19 13 5), .ref (X.2.2.2.1 17)]) (a := 13) K rfl (d' := 0) (Nat.le_of_ble_eq_true rfl) mv_X6_39 (recvO K lx_13 rfl) (w_f_Tape_numberOf hc24) rfl rfl (Nat.le_of_ble_eq_true rfl) dX6_cut_101 ?_
                refine g_goto (tgt := 108) K (by decide) dX6_cut_104 ?_
                refine g_sub [0, 2] rfl ?_
                exact hj21 _ h
  refine g_sub [1, 0] rfl ?_
  exact LP7 FU _ _ h
end
section
/-! printed by gen1.py -/
theorem dX3_token_0 : decode cX3_token 0 = .ok (.aload_n 0, 1) := by decide +kernel
theorem dX3_token_1 : decode cX3_token 1 = .ok (.getfield 26, 3) := by decide +kernel
theorem dX3_token_4 : decode cX3_token 4 = .ok (.iconst (-1), 1) := by decide +kernel
theorem dX3_token_5 : decode cX3_token 5 = .ok (.if_icmp .ne 35, 3) := by decide +kernel
theorem dX3_token_8 : decode cX3_token 8 = .ok (.aload_n 0, 1) := by decide +kernel
theorem dX3_token_9 : decode cX3_token 9 = .ok (.getfield 32, 3) := by decide +kernel
theorem dX3_token_12 : decode cX3_token 12 = .ok (.ifCond .lt 28, 3) := by decide +kernel
theorem dX3_token_15 : decode cX3_token 15 = .ok (.aload_n 0, 1) := by decide +kernel
theorem dX3_token_16 : decode cX3_token 16 = .ok (.getfield 32, 3) := by decide +kernel
theorem dX3_token_19 : decode cX3_token 19 = .ok (.sipush 160, 3) := by decide +kernel
theorem dX3_token_22 : decode cX3_token 22 = .ok (.if_icmp .gt 18, 3) := by decide +kernel
theorem dX3_token_25 : decode cX3_token 25 = .ok (.aload_n 0, 1) := by decide +kernel
theorem dX3_token_26 : decode cX3_token 26 = .ok (.getfield 18, 3) := by decide +kernel
theorem dX3_token_29 : decode cX3_token 29 = .ok (.getfield 54, 3) := by decide +kernel
theorem dX3_token_32 : decode cX3_token 32 = .ok (.aload_n 0, 1) := by decide +kernel
theorem dX3_token_33 : decode cX3_token 33 = .ok (.getfield 32, 3) := by decide +kernel
theorem dX3_token_36 : decode cX3_token 36 = .ok (.iaload, 1) := by decide +kernel
theorem dX3_token_37 : decode cX3_token 37 = .ok (.goto 5, 3) := by decide +kernel
theorem dX3_token_40 : decode cX3_token 40 = .ok (.bipush 15, 2) := by decide +kernel
theorem dX3_token_42 : decode cX3_token 42 = .ok (.ireturn, 1) := by decide +kernel
theorem dX3_is_0 : decode cX3_is 0 = .ok (.aload_n 0, 1) := by decide +kernel
theorem dX3_is_1 : decode cX3_is 1 = .ok (.invokevirtual 50, 3) := by decide +kernel
theorem dX3_is_4 : decode cX3_is 4 = .ok (.iload_n 1, 1) := by decide +kernel
theorem dX3_is_5 : decode cX3_is 5 = .ok (.if_icmp .ne 7, 3) := by decide +kernel
theorem dX3_is_8 : decode cX3_is 8 = .ok (.iconst 1, 1) := by decide +kernel
theorem dX3_is_9 : decode cX3_is 9 = .ok (.goto 4, 3) := by decide +kernel
theorem dX3_is_12 : decode cX3_is 12 = .ok (.iconst 0, 1) := by decide +kernel
theorem dX3_is_13 : decode cX3_is 13 = .ok (.ireturn, 1) := by decide +kernel
theorem dX3_next_0 : decode cX3_next 0 = .ok (.aload_n 0, 1) := by decide +kernel
theorem dX3_next_1 : decode cX3_next 1 = .ok (.getfield 32, 3) := by decide +kernel
theorem dX3_next_4 : decode cX3_next 4 = .ok (.aload_n 0, 1) := by decide +kernel
theorem dX3_next_5 : decode cX3_next 5 = .ok (.getfield 18, 3) := by decide +kernel
theorem dX3_next_8 : decode cX3_next 8 = .ok (.getfield 58, 3) := by decide +kernel
theorem dX3_next_11 : decode cX3_next 11 = .ok (.if_icmp .ge 23, 3) := by decide +kernel
theorem dX3_next_14 : decode cX3_next 14 = .ok (.aload_n 0, 1) := by decide +kernel
theorem dX3_next_15 : decode cX3_next 15 = .ok (.getfield 32, 3) := by decide +kernel
theorem dX3_next_18 : decode cX3_next 18 = .ok (.sipush 160, 3) := by decide +kernel
theorem dX3_next_21 : decode cX3_next 21 = .ok (.if_icmp .ge 13, 3) := by decide +kernel
theorem dX3_next_24 : decode cX3_next 24 = .ok (.aload_n 0, 1) := by decide +kernel
theorem dX3_next_25 : decode cX3_next 25 = .ok (.dup, 1) := by decide +kernel
theorem dX3_next_26 : decode cX3_next 26 = .ok (.getfield 32, 3) := by decide +kernel
theorem dX3_next_29 : decode cX3_next 29 = .ok (.iconst 1, 1) := by decide +kernel
theorem dX3_next_30 : decode cX3_next 30 = .ok (.iadd, 1) := by decide +kernel
theorem dX3_next_31 : decode cX3_next 31 = .ok (.putfield 32, 3) := by decide +kernel
theorem dX3_next_34 : decode cX3_next 34 = .ok (.return_, 1) := by decide +kernel
theorem dX3_fail_0 : decode cX3_fail 0 = .ok (.aload_n 0, 1) := by decide +kernel
theorem dX3_fail_1 : decode cX3_fail 1 = .ok (.getfield 26, 3) := by decide +kernel
theorem dX3_fail_4 : decode cX3_fail 4 = .ok (.iconst (-1), 1) := by decide +kernel
theorem dX3_fail_5 : decode cX3_fail 5 = .ok (.if_icmp .ne 46, 3) := by decide +kernel
theorem dX3_fail_8 : decode cX3_fail 8 = .ok (.aload_n 0, 1) := by decide +kernel
theorem dX3_fail_9 : decode cX3_fail 9 = .ok (.aload_n 0, 1) := by decide +kernel
theorem dX3_fail_10 : decode cX3_fail 10 = .ok (.getfield 32, 3) := by decide +kernel
theorem dX3_fail_13 : decode cX3_fail 13 = .ok (.ifCond .lt 28, 3) := by decide +kernel
theorem dX3_fail_16 : decode cX3_fail 16 = .ok (.aload_n 0, 1) := by decide +kernel
theorem dX3_fail_17 : decode cX3_fail 17 = .ok (.getfield 32, 3) := by decide +kernel
theorem dX3_fail_20 : decode cX3_fail 20 = .ok (.sipush 160, 3) := by decide +kernel
theorem dX3_fail_23 : decode cX3_fail 23 = .ok (.if_icmp .gt 18, 3) := by decide +kernel
theorem dX3_fail_26 : decode cX3_fail 26 = .ok (.aload_n 0, 1) := by decide +kernel
theorem dX3_fail_27 : decode cX3_fail 27 = .ok (.getfield 18, 3) := by decide +kernel
theorem dX3_fail_30 : decode cX3_fail 30 = .ok (.getfield 61, 3) := by decide +kernel
theorem dX3_fail_33 : decode cX3_fail 33 = .ok (.aload_n 0, 1) := by decide +kernel
theorem dX3_fail_34 : decode cX3_fail 34 = .ok (.getfield 32, 3) := by decide +kernel
theorem dX3_fail_37 : decode cX3_fail 37 = .ok (.iaload, 1) := by decide +kernel
theorem dX3_fail_38 : decode cX3_fail 38 = .ok (.goto 10, 3) := by decide +kernel
theorem dX3_fail_41 : decode cX3_fail 41 = .ok (.aload_n 0, 1) := by decide +kernel
theorem dX3_fail_42 : decode cX3_fail 42 = .ok (.getfield 18, 3) := by decide +kernel
theorem dX3_fail_45 : decode cX3_fail 45 = .ok (.getfield 64, 3) := by decide +kernel
theorem dX3_fail_48 : decode cX3_fail 48 = .ok (.putfield 26, 3) := by decide +kernel
theorem dX3_fail_51 : decode cX3_fail 51 = .ok (.return_, 1) := by decide +kernel
theorem dX3_expect_0 : decode cX3_expect 0 = .ok (.aload_n 0, 1) := by decide +kernel
theorem dX3_expect_1 : decode cX3_expect 1 = .ok (.iload_n 1, 1) := by decide +kernel
theorem dX3_expect_2 : decode cX3_expect 2 = .ok (.invokevirtual 67, 3) := by decide +kernel
theorem dX3_expect_5 : decode cX3_expect 5 = .ok (.ifCond .eq 10, 3) := by decide +kernel
theorem dX3_expect_8 : decode cX3_expect 8 = .ok (.aload_n 0, 1) := by decide +kernel
theorem dX3_expect_9 : decode cX3_expect 9 = .ok (.invokevirtual 71, 3) := by decide +kernel
theorem dX3_expect_12 : decode cX3_expect 12 = .ok (.goto 7, 3) := by decide +kernel
theorem dX3_expect_15 : decode cX3_expect 15 = .ok (.aload_n 0, 1) := by decide +kernel
theorem dX3_expect_16 : decode cX3_expect 16 = .ok (.invokevirtual 74, 3) := by decide +kernel
theorem dX3_expect_19 : decode cX3_expect 19 = .ok (.return_, 1) := by decide +kernel
theorem dX3_opens_0 : decode cX3_opens 0 = .ok (.aload_n 0, 1) := by decide +kernel
theorem dX3_opens_1 : decode cX3_opens 1 = .ok (.getfield 22, 3) := by decide +kernel
theorem dX3_opens_4 : decode cX3_opens 4 = .ok (.iconst 5, 1) := by decide +kernel
theorem dX3_opens_5 : decode cX3_opens 5 = .ok (.if_icmp .lt 9, 3) := by decide +kernel
theorem dX3_opens_8 : decode cX3_opens 8 = .ok (.aload_n 0, 1) := by decide +kernel
theorem dX3_opens_9 : decode cX3_opens 9 = .ok (.invokevirtual 74, 3) := by decide +kernel
theorem dX3_opens_12 : decode cX3_opens 12 = .ok (.iconst 0, 1) := by decide +kernel
theorem dX3_opens_13 : decode cX3_opens 13 = .ok (.ireturn, 1) := by decide +kernel
theorem dX3_opens_14 : decode cX3_opens 14 = .ok (.aload_n 0, 1) := by decide +kernel
theorem dX3_opens_15 : decode cX3_opens 15 = .ok (.dup, 1) := by decide +kernel
theorem dX3_opens_16 : decode cX3_opens 16 = .ok (.getfield 22, 3) := by decide +kernel
theorem dX3_opens_19 : decode cX3_opens 19 = .ok (.iconst 1, 1) := by decide +kernel
theorem dX3_opens_20 : decode cX3_opens 20 = .ok (.iadd, 1) := by decide +kernel
theorem dX3_opens_21 : decode cX3_opens 21 = .ok (.putfield 22, 3) := by decide +kernel
theorem dX3_opens_24 : decode cX3_opens 24 = .ok (.aload_n 0, 1) := by decide +kernel
theorem dX3_opens_25 : decode cX3_opens 25 = .ok (.invokevirtual 71, 3) := by decide +kernel
theorem dX3_opens_28 : decode cX3_opens 28 = .ok (.iconst 1, 1) := by decide +kernel
theorem dX3_opens_29 : decode cX3_opens 29 = .ok (.ireturn, 1) := by decide +kernel
theorem dX3_number_0 : decode cX3_number 0 = .ok (.aload_n 0, 1) := by decide +kernel
theorem dX3_number_1 : decode cX3_number 1 = .ok (.getfield 32, 3) := by decide +kernel
theorem dX3_number_4 : decode cX3_number 4 = .ok (.ifCond .lt 28, 3) := by decide +kernel
theorem dX3_number_7 : decode cX3_number 7 = .ok (.aload_n 0, 1) := by decide +kernel
theorem dX3_number_8 : decode cX3_number 8 = .ok (.getfield 32, 3) := by decide +kernel
theorem dX3_number_11 : decode cX3_number 11 = .ok (.sipush 160, 3) := by decide +kernel
theorem dX3_number_14 : decode cX3_number 14 = .ok (.if_icmp .gt 18, 3) := by decide +kernel
theorem dX3_number_17 : decode cX3_number 17 = .ok (.aload_n 0, 1) := by decide +kernel
theorem dX3_number_18 : decode cX3_number 18 = .ok (.getfield 18, 3) := by decide +kernel
theorem dX3_number_21 : decode cX3_number 21 = .ok (.getfield 111, 3) := by decide +kernel
theorem dX3_number_24 : decode cX3_number 24 = .ok (.aload_n 0, 1) := by decide +kernel
theorem dX3_number_25 : decode cX3_number 25 = .ok (.getfield 32, 3) := by decide +kernel
theorem dX3_number_28 : decode cX3_number 28 = .ok (.iaload, 1) := by decide +kernel
theorem dX3_number_29 : decode cX3_number 29 = .ok (.goto 4, 3) := by decide +kernel
theorem dX3_number_32 : decode cX3_number 32 = .ok (.iconst 0, 1) := by decide +kernel
theorem dX3_number_33 : decode cX3_number 33 = .ok (.ireturn, 1) := by decide +kernel
theorem dX3_readTerm_0 : decode cX3_readTerm 0 = .ok (.aload_n 0, 1) := by decide +kernel
theorem dX3_readTerm_1 : decode cX3_readTerm 1 = .ok (.invokevirtual 99, 3) := by decide +kernel
theorem dX3_readTerm_4 : decode cX3_readTerm 4 = .ok (.iconst 0, 1) := by decide +kernel
theorem dX3_readTerm_5 : decode cX3_readTerm 5 = .ok (.istore_n 1, 1) := by decide +kernel
theorem dX3_readTerm_6 : decode cX3_readTerm 6 = .ok (.iload_n 1, 1) := by decide +kernel
theorem dX3_readTerm_7 : decode cX3_readTerm 7 = .ok (.sipush 160, 3) := by decide +kernel
theorem dX3_readTerm_10 : decode cX3_readTerm 10 = .ok (.if_icmp .ge 35, 3) := by decide +kernel
theorem dX3_readTerm_13 : decode cX3_readTerm 13 = .ok (.aload_n 0, 1) := by decide +kernel
theorem dX3_readTerm_14 : decode cX3_readTerm 14 = .ok (.bipush 42, 2) := by decide +kernel
theorem dX3_readTerm_16 : decode cX3_readTerm 16 = .ok (.invokevirtual 67, 3) := by decide +kernel
theorem dX3_readTerm_19 : decode cX3_readTerm 19 = .ok (.ifCond .eq 26, 3) := by decide +kernel
theorem dX3_readTerm_22 : decode cX3_readTerm 22 = .ok (.aload_n 0, 1) := by decide +kernel
theorem dX3_readTerm_23 : decode cX3_readTerm 23 = .ok (.invokevirtual 71, 3) := by decide +kernel
theorem dX3_readTerm_26 : decode cX3_readTerm 26 = .ok (.aload_n 0, 1) := by decide +kernel
theorem dX3_readTerm_27 : decode cX3_readTerm 27 = .ok (.invokevirtual 99, 3) := by decide +kernel
theorem dX3_readTerm_30 : decode cX3_readTerm 30 = .ok (.aload_n 0, 1) := by decide +kernel
theorem dX3_readTerm_31 : decode cX3_readTerm 31 = .ok (.getfield 12, 3) := by decide +kernel
theorem dX3_readTerm_34 : decode cX3_readTerm 34 = .ok (.bipush (-42), 2) := by decide +kernel
theorem dX3_readTerm_36 : decode cX3_readTerm 36 = .ok (.invokevirtual 80, 3) := by decide +kernel
theorem dX3_readTerm_39 : decode cX3_readTerm 39 = .ok (.iinc 1 1, 3) := by decide +kernel
theorem dX3_readTerm_42 : decode cX3_readTerm 42 = .ok (.goto (-36), 3) := by decide +kernel
theorem dX3_readTerm_45 : decode cX3_readTerm 45 = .ok (.return_, 1) := by decide +kernel
theorem dX3_readSum_0 : decode cX3_readSum 0 = .ok (.aload_n 0, 1) := by decide +kernel
theorem dX3_readSum_1 : decode cX3_readSum 1 = .ok (.invokevirtual 96, 3) := by decide +kernel
theorem dX3_readSum_4 : decode cX3_readSum 4 = .ok (.iconst 0, 1) := by decide +kernel
theorem dX3_readSum_5 : decode cX3_readSum 5 = .ok (.istore_n 1, 1) := by decide +kernel
theorem dX3_readSum_6 : decode cX3_readSum 6 = .ok (.iload_n 1, 1) := by decide +kernel
theorem dX3_readSum_7 : decode cX3_readSum 7 = .ok (.sipush 160, 3) := by decide +kernel
theorem dX3_readSum_10 : decode cX3_readSum 10 = .ok (.if_icmp .ge 49, 3) := by decide +kernel
theorem dX3_readSum_13 : decode cX3_readSum 13 = .ok (.aload_n 0, 1) := by decide +kernel
theorem dX3_readSum_14 : decode cX3_readSum 14 = .ok (.bipush 43, 2) := by decide +kernel
theorem dX3_readSum_16 : decode cX3_readSum 16 = .ok (.invokevirtual 67, 3) := by decide +kernel
theorem dX3_readSum_19 : decode cX3_readSum 19 = .ok (.ifCond .ne 12, 3) := by decide +kernel
theorem dX3_readSum_22 : decode cX3_readSum 22 = .ok (.aload_n 0, 1) := by decide +kernel
theorem dX3_readSum_23 : decode cX3_readSum 23 = .ok (.bipush 45, 2) := by decide +kernel
theorem dX3_readSum_25 : decode cX3_readSum 25 = .ok (.invokevirtual 67, 3) := by decide +kernel
theorem dX3_readSum_28 : decode cX3_readSum 28 = .ok (.ifCond .eq 31, 3) := by decide +kernel
theorem dX3_readSum_31 : decode cX3_readSum 31 = .ok (.aload_n 0, 1) := by decide +kernel
theorem dX3_readSum_32 : decode cX3_readSum 32 = .ok (.invokevirtual 50, 3) := by decide +kernel
theorem dX3_readSum_35 : decode cX3_readSum 35 = .ok (.istore_n 2, 1) := by decide +kernel
theorem dX3_readSum_36 : decode cX3_readSum 36 = .ok (.aload_n 0, 1) := by decide +kernel
theorem dX3_readSum_37 : decode cX3_readSum 37 = .ok (.invokevirtual 71, 3) := by decide +kernel
theorem dX3_readSum_40 : decode cX3_readSum 40 = .ok (.aload_n 0, 1) := by decide +kernel
theorem dX3_readSum_41 : decode cX3_readSum 41 = .ok (.invokevirtual 96, 3) := by decide +kernel
theorem dX3_readSum_44 : decode cX3_readSum 44 = .ok (.aload_n 0, 1) := by decide +kernel
theorem dX3_readSum_45 : decode cX3_readSum 45 = .ok (.getfield 12, 3) := by decide +kernel
theorem dX3_readSum_48 : decode cX3_readSum 48 = .ok (.iload_n 2, 1) := by decide +kernel
theorem dX3_readSum_49 : decode cX3_readSum 49 = .ok (.ineg, 1) := by decide +kernel
theorem dX3_readSum_50 : decode cX3_readSum 50 = .ok (.invokevirtual 80, 3) := by decide +kernel
theorem dX3_readSum_53 : decode cX3_readSum 53 = .ok (.iinc 1 1, 3) := by decide +kernel
theorem dX3_readSum_56 : decode cX3_readSum 56 = .ok (.goto (-50), 3) := by decide +kernel
theorem dX3_readSum_59 : decode cX3_readSum 59 = .ok (.return_, 1) := by decide +kernel
theorem dX3_readCompared_0 : decode cX3_readCompared 0 = .ok (.aload_n 0, 1) := by decide +kernel
theorem dX3_readCompared_1 : decode cX3_readCompared 1 = .ok (.invokevirtual 93, 3) := by decide +kernel
theorem dX3_readCompared_4 : decode cX3_readCompared 4 = .ok (.aload_n 0, 1) := by decide +kernel
theorem dX3_readCompared_5 : decode cX3_readCompared 5 = .ok (.bipush 60, 2) := by decide +kernel
theorem dX3_readCompared_7 : decode cX3_readCompared 7 = .ok (.invokevirtual 67, 3) := by decide +kernel
theorem dX3_readCompared_10 : decode cX3_readCompared 10 = .ok (.ifCond .ne 12, 3) := by decide +kernel
theorem dX3_readCompared_13 : decode cX3_readCompared 13 = .ok (.aload_n 0, 1) := by decide +kernel
theorem dX3_readCompared_14 : decode cX3_readCompared 14 = .ok (.bipush 61, 2) := by decide +kernel
theorem dX3_readCompared_16 : decode cX3_readCompared 16 = .ok (.invokevirtual 67, 3) := by decide +kernel
theorem dX3_readCompared_19 : decode cX3_readCompared 19 = .ok (.ifCond .eq 25, 3) := by decide +kernel
theorem dX3_readCompared_22 : decode cX3_readCompared 22 = .ok (.aload_n 0, 1) := by decide +kernel
theorem dX3_readCompared_23 : decode cX3_readCompared 23 = .ok (.invokevirtual 50, 3) := by decide +kernel
theorem dX3_readCompared_26 : decode cX3_readCompared 26 = .ok (.istore_n 1, 1) := by decide +kernel
theorem dX3_readCompared_27 : decode cX3_readCompared 27 = .ok (.aload_n 0, 1) := by decide +kernel
theorem dX3_readCompared_28 : decode cX3_readCompared 28 = .ok (.invokevirtual 71, 3) := by decide +kernel
theorem dX3_readCompared_31 : decode cX3_readCompared 31 = .ok (.aload_n 0, 1) := by decide +kernel
theorem dX3_readCompared_32 : decode cX3_readCompared 32 = .ok (.invokevirtual 93, 3) := by decide +kernel
theorem dX3_readCompared_35 : decode cX3_readCompared 35 = .ok (.aload_n 0, 1) := by decide +kernel
theorem dX3_readCompared_36 : decode cX3_readCompared 36 = .ok (.getfield 12, 3) := by decide +kernel
theorem dX3_readCompared_39 : decode cX3_readCompared 39 = .ok (.iload_n 1, 1) := by decide +kernel
theorem dX3_readCompared_40 : decode cX3_readCompared 40 = .ok (.ineg, 1) := by decide +kernel
theorem dX3_readCompared_41 : decode cX3_readCompared 41 = .ok (.invokevirtual 80, 3) := by decide +kernel
theorem dX3_readCompared_44 : decode cX3_readCompared 44 = .ok (.return_, 1) := by decide +kernel
theorem dX3_readNot_0 : decode cX3_readNot 0 = .ok (.aload_n 0, 1) := by decide +kernel
theorem dX3_readNot_1 : decode cX3_readNot 1 = .ok (.bipush 12, 2) := by decide +kernel
theorem dX3_readNot_3 : decode cX3_readNot 3 = .ok (.invokevirtual 67, 3) := by decide +kernel
theorem dX3_readNot_6 : decode cX3_readNot 6 = .ok (.ifCond .ne 10, 3) := by decide +kernel
theorem dX3_readNot_9 : decode cX3_readNot 9 = .ok (.aload_n 0, 1) := by decide +kernel
theorem dX3_readNot_10 : decode cX3_readNot 10 = .ok (.invokevirtual 86, 3) := by decide +kernel
theorem dX3_readNot_13 : decode cX3_readNot 13 = .ok (.goto 33, 3) := by decide +kernel
theorem dX3_readNot_16 : decode cX3_readNot 16 = .ok (.aload_n 0, 1) := by decide +kernel
theorem dX3_readNot_17 : decode cX3_readNot 17 = .ok (.invokevirtual 89, 3) := by decide +kernel
theorem dX3_readNot_20 : decode cX3_readNot 20 = .ok (.ifCond .eq 26, 3) := by decide +kernel
theorem dX3_readNot_23 : decode cX3_readNot 23 = .ok (.aload_n 0, 1) := by decide +kernel
theorem dX3_readNot_24 : decode cX3_readNot 24 = .ok (.invokevirtual 83, 3) := by decide +kernel
theorem dX3_readNot_27 : decode cX3_readNot 27 = .ok (.aload_n 0, 1) := by decide +kernel
theorem dX3_readNot_28 : decode cX3_readNot 28 = .ok (.dup, 1) := by decide +kernel
theorem dX3_readNot_29 : decode cX3_readNot 29 = .ok (.getfield 22, 3) := by decide +kernel
theorem dX3_readNot_32 : decode cX3_readNot 32 = .ok (.iconst 1, 1) := by decide +kernel
theorem dX3_readNot_33 : decode cX3_readNot 33 = .ok (.isub, 1) := by decide +kernel
theorem dX3_readNot_34 : decode cX3_readNot 34 = .ok (.putfield 22, 3) := by decide +kernel
theorem dX3_readNot_37 : decode cX3_readNot 37 = .ok (.aload_n 0, 1) := by decide +kernel
theorem dX3_readNot_38 : decode cX3_readNot 38 = .ok (.getfield 12, 3) := by decide +kernel
theorem dX3_readNot_41 : decode cX3_readNot 41 = .ok (.bipush (-12), 2) := by decide +kernel
theorem dX3_readNot_43 : decode cX3_readNot 43 = .ok (.invokevirtual 80, 3) := by decide +kernel
theorem dX3_readNot_46 : decode cX3_readNot 46 = .ok (.return_, 1) := by decide +kernel
theorem dX3_readAnd_0 : decode cX3_readAnd 0 = .ok (.aload_n 0, 1) := by decide +kernel
theorem dX3_readAnd_1 : decode cX3_readAnd 1 = .ok (.invokevirtual 83, 3) := by decide +kernel
theorem dX3_readAnd_4 : decode cX3_readAnd 4 = .ok (.iconst 0, 1) := by decide +kernel
theorem dX3_readAnd_5 : decode cX3_readAnd 5 = .ok (.istore_n 1, 1) := by decide +kernel
theorem dX3_readAnd_6 : decode cX3_readAnd 6 = .ok (.iload_n 1, 1) := by decide +kernel
theorem dX3_readAnd_7 : decode cX3_readAnd 7 = .ok (.sipush 160, 3) := by decide +kernel
theorem dX3_readAnd_10 : decode cX3_readAnd 10 = .ok (.if_icmp .ge 35, 3) := by decide +kernel
theorem dX3_readAnd_13 : decode cX3_readAnd 13 = .ok (.aload_n 0, 1) := by decide +kernel
theorem dX3_readAnd_14 : decode cX3_readAnd 14 = .ok (.bipush 11, 2) := by decide +kernel
theorem dX3_readAnd_16 : decode cX3_readAnd 16 = .ok (.invokevirtual 67, 3) := by decide +kernel
theorem dX3_readAnd_19 : decode cX3_readAnd 19 = .ok (.ifCond .eq 26, 3) := by decide +kernel
theorem dX3_readAnd_22 : decode cX3_readAnd 22 = .ok (.aload_n 0, 1) := by decide +kernel
theorem dX3_readAnd_23 : decode cX3_readAnd 23 = .ok (.invokevirtual 71, 3) := by decide +kernel
theorem dX3_readAnd_26 : decode cX3_readAnd 26 = .ok (.aload_n 0, 1) := by decide +kernel
theorem dX3_readAnd_27 : decode cX3_readAnd 27 = .ok (.invokevirtual 83, 3) := by decide +kernel
theorem dX3_readAnd_30 : decode cX3_readAnd 30 = .ok (.aload_n 0, 1) := by decide +kernel
theorem dX3_readAnd_31 : decode cX3_readAnd 31 = .ok (.getfield 12, 3) := by decide +kernel
theorem dX3_readAnd_34 : decode cX3_readAnd 34 = .ok (.bipush (-11), 2) := by decide +kernel
theorem dX3_readAnd_36 : decode cX3_readAnd 36 = .ok (.invokevirtual 80, 3) := by decide +kernel
theorem dX3_readAnd_39 : decode cX3_readAnd 39 = .ok (.iinc 1 1, 3) := by decide +kernel
theorem dX3_readAnd_42 : decode cX3_readAnd 42 = .ok (.goto (-36), 3) := by decide +kernel
theorem dX3_readAnd_45 : decode cX3_readAnd 45 = .ok (.return_, 1) := by decide +kernel
theorem dX3_readE_0 : decode cX3_readE 0 = .ok (.aload_n 0, 1) := by decide +kernel
theorem dX3_readE_1 : decode cX3_readE 1 = .ok (.invokevirtual 77, 3) := by decide +kernel
theorem dX3_readE_4 : decode cX3_readE 4 = .ok (.iconst 0, 1) := by decide +kernel
theorem dX3_readE_5 : decode cX3_readE 5 = .ok (.istore_n 1, 1) := by decide +kernel
theorem dX3_readE_6 : decode cX3_readE 6 = .ok (.iload_n 1, 1) := by decide +kernel
theorem dX3_readE_7 : decode cX3_readE 7 = .ok (.sipush 160, 3) := by decide +kernel
theorem dX3_readE_10 : decode cX3_readE 10 = .ok (.if_icmp .ge 35, 3) := by decide +kernel
theorem dX3_readE_13 : decode cX3_readE 13 = .ok (.aload_n 0, 1) := by decide +kernel
theorem dX3_readE_14 : decode cX3_readE 14 = .ok (.bipush 10, 2) := by decide +kernel
theorem dX3_readE_16 : decode cX3_readE 16 = .ok (.invokevirtual 67, 3) := by decide +kernel
theorem dX3_readE_19 : decode cX3_readE 19 = .ok (.ifCond .eq 26, 3) := by decide +kernel
theorem dX3_readE_22 : decode cX3_readE 22 = .ok (.aload_n 0, 1) := by decide +kernel
theorem dX3_readE_23 : decode cX3_readE 23 = .ok (.invokevirtual 71, 3) := by decide +kernel
theorem dX3_readE_26 : decode cX3_readE 26 = .ok (.aload_n 0, 1) := by decide +kernel
theorem dX3_readE_27 : decode cX3_readE 27 = .ok (.invokevirtual 77, 3) := by decide +kernel
theorem dX3_readE_30 : decode cX3_readE 30 = .ok (.aload_n 0, 1) := by decide +kernel
theorem dX3_readE_31 : decode cX3_readE 31 = .ok (.getfield 12, 3) := by decide +kernel
theorem dX3_readE_34 : decode cX3_readE 34 = .ok (.bipush (-10), 2) := by decide +kernel
theorem dX3_readE_36 : decode cX3_readE 36 = .ok (.invokevirtual 80, 3) := by decide +kernel
theorem dX3_readE_39 : decode cX3_readE 39 = .ok (.iinc 1 1, 3) := by decide +kernel
theorem dX3_readE_42 : decode cX3_readE 42 = .ok (.goto (-36), 3) := by decide +kernel
theorem dX3_readE_45 : decode cX3_readE 45 = .ok (.return_, 1) := by decide +kernel
theorem dX3_readMinus_0 : decode cX3_readMinus 0 = .ok (.aload_n 0, 1) := by decide +kernel
theorem dX3_readMinus_1 : decode cX3_readMinus 1 = .ok (.invokevirtual 89, 3) := by decide +kernel
theorem dX3_readMinus_4 : decode cX3_readMinus 4 = .ok (.ifCond .eq 26, 3) := by decide +kernel
theorem dX3_readMinus_7 : decode cX3_readMinus 7 = .ok (.aload_n 0, 1) := by decide +kernel
theorem dX3_readMinus_8 : decode cX3_readMinus 8 = .ok (.invokevirtual 99, 3) := by decide +kernel
theorem dX3_readMinus_11 : decode cX3_readMinus 11 = .ok (.aload_n 0, 1) := by decide +kernel
theorem dX3_readMinus_12 : decode cX3_readMinus 12 = .ok (.dup, 1) := by decide +kernel
theorem dX3_readMinus_13 : decode cX3_readMinus 13 = .ok (.getfield 22, 3) := by decide +kernel
theorem dX3_readMinus_16 : decode cX3_readMinus 16 = .ok (.iconst 1, 1) := by decide +kernel
theorem dX3_readMinus_17 : decode cX3_readMinus 17 = .ok (.isub, 1) := by decide +kernel
theorem dX3_readMinus_18 : decode cX3_readMinus 18 = .ok (.putfield 22, 3) := by decide +kernel
theorem dX3_readMinus_21 : decode cX3_readMinus 21 = .ok (.aload_n 0, 1) := by decide +kernel
theorem dX3_readMinus_22 : decode cX3_readMinus 22 = .ok (.getfield 12, 3) := by decide +kernel
theorem dX3_readMinus_25 : decode cX3_readMinus 25 = .ok (.bipush (-16), 2) := by decide +kernel
theorem dX3_readMinus_27 : decode cX3_readMinus 27 = .ok (.invokevirtual 80, 3) := by decide +kernel
theorem dX3_readMinus_30 : decode cX3_readMinus 30 = .ok (.return_, 1) := by decide +kernel
theorem dX3_readBracket_0 : decode cX3_readBracket 0 = .ok (.aload_n 0, 1) := by decide +kernel
theorem dX3_readBracket_1 : decode cX3_readBracket 1 = .ok (.invokevirtual 89, 3) := by decide +kernel
theorem dX3_readBracket_4 : decode cX3_readBracket 4 = .ok (.ifCond .eq 23, 3) := by decide +kernel
theorem dX3_readBracket_7 : decode cX3_readBracket 7 = .ok (.aload_n 0, 1) := by decide +kernel
theorem dX3_readBracket_8 : decode cX3_readBracket 8 = .ok (.invokevirtual 44, 3) := by decide +kernel
theorem dX3_readBracket_11 : decode cX3_readBracket 11 = .ok (.aload_n 0, 1) := by decide +kernel
theorem dX3_readBracket_12 : decode cX3_readBracket 12 = .ok (.bipush 41, 2) := by decide +kernel
theorem dX3_readBracket_14 : decode cX3_readBracket 14 = .ok (.invokevirtual 40, 3) := by decide +kernel
theorem dX3_readBracket_17 : decode cX3_readBracket 17 = .ok (.aload_n 0, 1) := by decide +kernel
theorem dX3_readBracket_18 : decode cX3_readBracket 18 = .ok (.dup, 1) := by decide +kernel
theorem dX3_readBracket_19 : decode cX3_readBracket 19 = .ok (.getfield 22, 3) := by decide +kernel
theorem dX3_readBracket_22 : decode cX3_readBracket 22 = .ok (.iconst 1, 1) := by decide +kernel
theorem dX3_readBracket_23 : decode cX3_readBracket 23 = .ok (.isub, 1) := by decide +kernel
theorem dX3_readBracket_24 : decode cX3_readBracket 24 = .ok (.putfield 22, 3) := by decide +kernel
theorem dX3_readBracket_27 : decode cX3_readBracket 27 = .ok (.return_, 1) := by decide +kernel
theorem dX3_readOne_0 : decode cX3_readOne 0 = .ok (.aload_n 0, 1) := by decide +kernel
theorem dX3_readOne_1 : decode cX3_readOne 1 = .ok (.invokevirtual 50, 3) := by decide +kernel
theorem dX3_readOne_4 : decode cX3_readOne 4 = .ok (.istore_n 1, 1) := by decide +kernel
theorem dX3_readOne_5 : decode cX3_readOne 5 = .ok (.iload_n 1, 1) := by decide +kernel
theorem dX3_readOne_6 : decode cX3_readOne 6 = .ok (.bipush 13, 2) := by decide +kernel
theorem dX3_readOne_8 : decode cX3_readOne 8 = .ok (.if_icmp .ne 21, 3) := by decide +kernel
theorem dX3_readOne_11 : decode cX3_readOne 11 = .ok (.aload_n 0, 1) := by decide +kernel
theorem dX3_readOne_12 : decode cX3_readOne 12 = .ok (.getfield 12, 3) := by decide +kernel
theorem dX3_readOne_15 : decode cX3_readOne 15 = .ok (.aload_n 0, 1) := by decide +kernel
theorem dX3_readOne_16 : decode cX3_readOne 16 = .ok (.invokevirtual 102, 3) := by decide +kernel
theorem dX3_readOne_19 : decode cX3_readOne 19 = .ok (.invokevirtual 80, 3) := by decide +kernel
theorem dX3_readOne_22 : decode cX3_readOne 22 = .ok (.aload_n 0, 1) := by decide +kernel
theorem dX3_readOne_23 : decode cX3_readOne 23 = .ok (.invokevirtual 71, 3) := by decide +kernel
theorem dX3_readOne_26 : decode cX3_readOne 26 = .ok (.goto 60, 3) := by decide +kernel
theorem dX3_readOne_29 : decode cX3_readOne 29 = .ok (.iload_n 1, 1) := by decide +kernel
theorem dX3_readOne_30 : decode cX3_readOne 30 = .ok (.iconst 1, 1) := by decide +kernel
theorem dX3_readOne_31 : decode cX3_readOne 31 = .ok (.if_icmp .lt 25, 3) := by decide +kernel
theorem dX3_readOne_34 : decode cX3_readOne 34 = .ok (.iload_n 1, 1) := by decide +kernel
theorem dX3_readOne_35 : decode cX3_readOne 35 = .ok (.bipush 6, 2) := by decide +kernel
theorem dX3_readOne_37 : decode cX3_readOne 37 = .ok (.if_icmp .gt 19, 3) := by decide +kernel
theorem dX3_readOne_40 : decode cX3_readOne 40 = .ok (.aload_n 0, 1) := by decide +kernel
theorem dX3_readOne_41 : decode cX3_readOne 41 = .ok (.getfield 12, 3) := by decide +kernel
theorem dX3_readOne_44 : decode cX3_readOne 44 = .ok (.iload_n 1, 1) := by decide +kernel
theorem dX3_readOne_45 : decode cX3_readOne 45 = .ok (.ineg, 1) := by decide +kernel
theorem dX3_readOne_46 : decode cX3_readOne 46 = .ok (.invokevirtual 80, 3) := by decide +kernel
theorem dX3_readOne_49 : decode cX3_readOne 49 = .ok (.aload_n 0, 1) := by decide +kernel
theorem dX3_readOne_50 : decode cX3_readOne 50 = .ok (.invokevirtual 71, 3) := by decide +kernel
theorem dX3_readOne_53 : decode cX3_readOne 53 = .ok (.goto 33, 3) := by decide +kernel
theorem dX3_readOne_56 : decode cX3_readOne 56 = .ok (.iload_n 1, 1) := by decide +kernel
theorem dX3_readOne_57 : decode cX3_readOne 57 = .ok (.bipush 45, 2) := by decide +kernel
theorem dX3_readOne_59 : decode cX3_readOne 59 = .ok (.if_icmp .ne 10, 3) := by decide +kernel
theorem dX3_readOne_62 : decode cX3_readOne 62 = .ok (.aload_n 0, 1) := by decide +kernel
theorem dX3_readOne_63 : decode cX3_readOne 63 = .ok (.invokevirtual 105, 3) := by decide +kernel
theorem dX3_readOne_66 : decode cX3_readOne 66 = .ok (.goto 20, 3) := by decide +kernel
theorem dX3_readOne_69 : decode cX3_readOne 69 = .ok (.iload_n 1, 1) := by decide +kernel
theorem dX3_readOne_70 : decode cX3_readOne 70 = .ok (.bipush 40, 2) := by decide +kernel
theorem dX3_readOne_72 : decode cX3_readOne 72 = .ok (.if_icmp .ne 10, 3) := by decide +kernel
theorem dX3_readOne_75 : decode cX3_readOne 75 = .ok (.aload_n 0, 1) := by decide +kernel
theorem dX3_readOne_76 : decode cX3_readOne 76 = .ok (.invokevirtual 108, 3) := by decide +kernel
theorem dX3_readOne_79 : decode cX3_readOne 79 = .ok (.goto 7, 3) := by decide +kernel
theorem dX3_readOne_82 : decode cX3_readOne 82 = .ok (.aload_n 0, 1) := by decide +kernel
theorem dX3_readOne_83 : decode cX3_readOne 83 = .ok (.invokevirtual 74, 3) := by decide +kernel
theorem dX3_readOne_86 : decode cX3_readOne 86 = .ok (.return_, 1) := by decide +kernel
theorem dX3_read_0 : decode cX3_read 0 = .ok (.aload_n 0, 1) := by decide +kernel
theorem dX3_read_1 : decode cX3_read 1 = .ok (.iconst 0, 1) := by decide +kernel
theorem dX3_read_2 : decode cX3_read 2 = .ok (.putfield 22, 3) := by decide +kernel
theorem dX3_read_5 : decode cX3_read 5 = .ok (.aload_n 0, 1) := by decide +kernel
theorem dX3_read_6 : decode cX3_read 6 = .ok (.iconst (-1), 1) := by decide +kernel
theorem dX3_read_7 : decode cX3_read 7 = .ok (.putfield 26, 3) := by decide +kernel
theorem dX3_read_10 : decode cX3_read 10 = .ok (.aload_n 0, 1) := by decide +kernel
theorem dX3_read_11 : decode cX3_read 11 = .ok (.getfield 12, 3) := by decide +kernel
theorem dX3_read_14 : decode cX3_read 14 = .ok (.invokevirtual 29, 3) := by decide +kernel
theorem dX3_read_17 : decode cX3_read 17 = .ok (.aload_n 0, 1) := by decide +kernel
theorem dX3_read_18 : decode cX3_read 18 = .ok (.iconst 0, 1) := by decide +kernel
theorem dX3_read_19 : decode cX3_read 19 = .ok (.putfield 32, 3) := by decide +kernel
theorem dX3_read_22 : decode cX3_read 22 = .ok (.aload_n 0, 1) := by decide +kernel
theorem dX3_read_23 : decode cX3_read 23 = .ok (.getfield 18, 3) := by decide +kernel
theorem dX3_read_26 : decode cX3_read 26 = .ok (.invokevirtual 35, 3) := by decide +kernel
theorem dX3_read_29 : decode cX3_read 29 = .ok (.iconst 0, 1) := by decide +kernel
theorem dX3_read_30 : decode cX3_read 30 = .ok (.istore_n 1, 1) := by decide +kernel
theorem dX3_read_31 : decode cX3_read 31 = .ok (.iload_n 1, 1) := by decide +kernel
theorem dX3_read_32 : decode cX3_read 32 = .ok (.iconst 3, 1) := by decide +kernel
theorem dX3_read_33 : decode cX3_read 33 = .ok (.if_icmp .ge 35, 3) := by decide +kernel
theorem dX3_read_36 : decode cX3_read 36 = .ok (.aload_n 0, 1) := by decide +kernel
theorem dX3_read_37 : decode cX3_read 37 = .ok (.bipush 7, 2) := by decide +kernel
theorem dX3_read_39 : decode cX3_read 39 = .ok (.iload_n 1, 1) := by decide +kernel
theorem dX3_read_40 : decode cX3_read 40 = .ok (.iadd, 1) := by decide +kernel
theorem dX3_read_41 : decode cX3_read 41 = .ok (.invokevirtual 40, 3) := by decide +kernel
theorem dX3_read_44 : decode cX3_read 44 = .ok (.aload_n 0, 1) := by decide +kernel
theorem dX3_read_45 : decode cX3_read 45 = .ok (.invokevirtual 44, 3) := by decide +kernel
theorem dX3_read_48 : decode cX3_read 48 = .ok (.aload_n 0, 1) := by decide +kernel
theorem dX3_read_49 : decode cX3_read 49 = .ok (.bipush 59, 2) := by decide +kernel
theorem dX3_read_51 : decode cX3_read 51 = .ok (.invokevirtual 40, 3) := by decide +kernel
theorem dX3_read_54 : decode cX3_read 54 = .ok (.aload_n 0, 1) := by decide +kernel
theorem dX3_read_55 : decode cX3_read 55 = .ok (.getfield 12, 3) := by decide +kernel
theorem dX3_read_58 : decode cX3_read 58 = .ok (.iload_n 1, 1) := by decide +kernel
theorem dX3_read_59 : decode cX3_read 59 = .ok (.invokevirtual 47, 3) := by decide +kernel
theorem dX3_read_62 : decode cX3_read 62 = .ok (.iinc 1 1, 3) := by decide +kernel
theorem dX3_read_65 : decode cX3_read 65 = .ok (.goto (-34), 3) := by decide +kernel
theorem dX3_read_68 : decode cX3_read 68 = .ok (.aload_n 0, 1) := by decide +kernel
theorem dX3_read_69 : decode cX3_read 69 = .ok (.bipush 14, 2) := by decide +kernel
theorem dX3_read_71 : decode cX3_read 71 = .ok (.invokevirtual 40, 3) := by decide +kernel
theorem dX3_read_74 : decode cX3_read 74 = .ok (.aload_n 0, 1) := by decide +kernel
theorem dX3_read_75 : decode cX3_read 75 = .ok (.getfield 26, 3) := by decide +kernel
theorem dX3_read_78 : decode cX3_read 78 = .ok (.ireturn, 1) := by decide +kernel
def f_Reader_token (M : Mem) : Option Int32 :=
if (M 18 4) = (-1) then
(if (M 18 2) < 0 then
(some 15)
else
(if 160 < (M 18 2) then
(some 15)
else
(ck (M 18 2) 161 <|
some (M 15 (M 18 2).toNatClampNeg))))
else
(some 15)
def f_Reader_is (M : Mem) (a1 : Int32) : Option Bool :=
ob (f_Reader_token M) fun (v2 : Int32) =>
if v2 = a1 then
(some true)
else
(some false)
def f_Reader_next (M : Mem) : Option Mem :=
if (M 13 5) ≤ (M 18 2) then
(some M)
else
(if 160 ≤ (M 18 2) then
(some M)
else
(bnd (wr M 18 2 ((M 18 2) + 1)) fun (M1 : Mem) =>
some M1))
def f_Reader_fail (M : Mem) : Option Mem :=
if (M 18 4) = (-1) then
(jp (fun (v1 : Int32) =>
bnd (wr M 18 4 v1) fun (M3 : Mem) =>
some M3) fun j2 =>
jp (fun (u4 : Unit) =>
j2 (M 13 1)) fun j5 =>
if (M 18 2) < 0 then
(j5 ())
else
(if 160 < (M 18 2) then
(j5 ())
else
(ck (M 18 2) 161 <|
j2 (M 16 (M 18 2).toNatClampNeg))))
else
(some M)
def f_Reader_expect (M : Mem) (a1 : Int32) : Option Mem :=
ob (f_Reader_is M a1) fun (v2 : Bool) =>
if v2 = true then
(ob (f_Reader_next M) fun (M6 : Mem) =>
some M6)
else
(ob (f_Reader_fail M) fun (M4 : Mem) =>
some M4)
def f_Reader_opens (M : Mem) : Option (Mem × Bool) :=
if (M 18 3) < 5 then
(bnd (wr M 18 3 ((M 18 3) + 1)) fun (M1 : Mem) =>
ob (f_Reader_next M1) fun (M3 : Mem) =>
some (M3, true))
else
(ob (f_Reader_fail M) fun (M5 : Mem) =>
some (M5, false))
def f_Reader_number (M : Mem) : Option Int32 :=
if (M 18 2) < 0 then
(some 0)
else
(if 160 < (M 18 2) then
(some 0)
else
(ck (M 18 2) 161 <|
some (M 17 (M 18 2).toNatClampNeg)))
def f_Reader_readTerm_L6 (one : Mem → Option Mem) (j4 : Mem → Option Mem) : Nat → Int32 → Mem → Option Mem
  | 0, _, _ => none
  | fu7 + 1, v5, M6 =>
    if 160 ≤ v5 then
    (j4 M6)
    else
    (ob (f_Reader_is M6 42) fun (v9 : Bool) =>
    if v9 = true then
    (ob (f_Reader_next M6) fun (M11 : Mem) =>
    ob (one M11) fun (M13 : Mem) =>
    ob (f_Text_add M13 19 (-42)) fun (M15 : Mem) =>
    bnd (v5 + 1) fun (v16 : Int32) =>
    f_Reader_readTerm_L6 one j4 fu7 v16 M15)
    else
    (j4 M6))
def f_Reader_readTerm (one : Mem → Option Mem) (M : Mem) : Option Mem :=
ob (one M) fun (M2 : Mem) =>
jp (fun (M3 : Mem) =>
some M3) fun j4 =>
f_Reader_readTerm_L6 one j4 FU 0 M2
def f_Reader_readSum_L6 (one : Mem → Option Mem) (j4 : Mem → Option Mem) : Nat → Int32 → Mem → Option Mem
  | 0, _, _ => none
  | fu7 + 1, v5, M6 =>
    if 160 ≤ v5 then
    (j4 M6)
    else
    (ob (f_Reader_is M6 43) fun (v9 : Bool) =>
    jp (fun (u10 : Unit) =>
    ob (f_Reader_token M6) fun (v13 : Int32) =>
    ob (f_Reader_next M6) fun (M15 : Mem) =>
    ob (f_Reader_readTerm one M15) fun (M17 : Mem) =>
    ob (f_Text_add M17 19 (-v13)) fun (M19 : Mem) =>
    bnd (v5 + 1) fun (v20 : Int32) =>
    f_Reader_readSum_L6 one j4 fu7 v20 M19) fun j11 =>
    if v9 = true then
    (j11 ())
    else
    (ob (f_Reader_is M6 45) fun (v22 : Bool) =>
    if v22 = true then
    (j11 ())
    else
    (j4 M6)))
def f_Reader_readSum (one : Mem → Option Mem) (M : Mem) : Option Mem :=
ob (f_Reader_readTerm one M) fun (M2 : Mem) =>
jp (fun (M3 : Mem) =>
some M3) fun j4 =>
f_Reader_readSum_L6 one j4 FU 0 M2
def f_Reader_readCompared (one : Mem → Option Mem) (M : Mem) : Option Mem :=
ob (f_Reader_readSum one M) fun (M2 : Mem) =>
ob (f_Reader_is M2 60) fun (v4 : Bool) =>
jp (fun (u5 : Unit) =>
ob (f_Reader_token M2) fun (v8 : Int32) =>
ob (f_Reader_next M2) fun (M10 : Mem) =>
ob (f_Reader_readSum one M10) fun (M12 : Mem) =>
ob (f_Text_add M12 19 (-v8)) fun (M14 : Mem) =>
some M14) fun j6 =>
if v4 = true then
(j6 ())
else
(ob (f_Reader_is M2 61) fun (v16 : Bool) =>
if v16 = true then
(j6 ())
else
(some M2))
def f_Reader_readNotB (one : Mem → Option Mem) (slf : Mem → Option Mem) (M : Mem) : Option Mem :=
ob (f_Reader_is M 12) fun (v2 : Bool) =>
if v2 = true then
(ob2 (f_Reader_opens M) fun (M4 : Mem) (v5 : Bool) =>
if v5 = true then
(ob (slf M4) fun (M7 : Mem) =>
bnd (wr M7 18 3 ((M7 18 3) - 1)) fun (M8 : Mem) =>
ob (f_Text_add M8 19 (-12)) fun (M10 : Mem) =>
some M10)
else
(some M4))
else
(ob (f_Reader_readCompared one M) fun (M12 : Mem) =>
some M12)
def f_Reader_readNot (one : Mem → Option Mem) : Nat → Mem → Option Mem
  | 0, _ => none
  | k + 1, M => f_Reader_readNotB one (f_Reader_readNot one k) M
def f_Reader_readAnd_L6 (one : Mem → Option Mem) (j4 : Mem → Option Mem) : Nat → Int32 → Mem → Option Mem
  | 0, _, _ => none
  | fu7 + 1, v5, M6 =>
    if 160 ≤ v5 then
    (j4 M6)
    else
    (ob (f_Reader_is M6 11) fun (v9 : Bool) =>
    if v9 = true then
    (ob (f_Reader_next M6) fun (M11 : Mem) =>
    ob (f_Reader_readNot one 10 M11) fun (M13 : Mem) =>
    ob (f_Text_add M13 19 (-11)) fun (M15 : Mem) =>
    bnd (v5 + 1) fun (v16 : Int32) =>
    f_Reader_readAnd_L6 one j4 fu7 v16 M15)
    else
    (j4 M6))
def f_Reader_readAnd (one : Mem → Option Mem) (M : Mem) : Option Mem :=
ob (f_Reader_readNot one 10 M) fun (M2 : Mem) =>
jp (fun (M3 : Mem) =>
some M3) fun j4 =>
f_Reader_readAnd_L6 one j4 FU 0 M2
def f_Reader_readE_L6 (one : Mem → Option Mem) (j4 : Mem → Option Mem) : Nat → Int32 → Mem → Option Mem
  | 0, _, _ => none
  | fu7 + 1, v5, M6 =>
    if 160 ≤ v5 then
    (j4 M6)
    else
    (ob (f_Reader_is M6 10) fun (v9 : Bool) =>
    if v9 = true then
    (ob (f_Reader_next M6) fun (M11 : Mem) =>
    ob (f_Reader_readAnd one M11) fun (M13 : Mem) =>
    ob (f_Text_add M13 19 (-10)) fun (M15 : Mem) =>
    bnd (v5 + 1) fun (v16 : Int32) =>
    f_Reader_readE_L6 one j4 fu7 v16 M15)
    else
    (j4 M6))
def f_Reader_readE (one : Mem → Option Mem) (M : Mem) : Option Mem :=
ob (f_Reader_readAnd one M) fun (M2 : Mem) =>
jp (fun (M3 : Mem) =>
some M3) fun j4 =>
f_Reader_readE_L6 one j4 FU 0 M2
def f_Reader_readMinus (one : Mem → Option Mem) (M : Mem) : Option Mem :=
ob2 (f_Reader_opens M) fun (M2 : Mem) (v3 : Bool) =>
if v3 = true then
(ob (one M2) fun (M5 : Mem) =>
bnd (wr M5 18 3 ((M5 18 3) - 1)) fun (M6 : Mem) =>
ob (f_Text_add M6 19 (-16)) fun (M8 : Mem) =>
some M8)
else
(some M2)
def f_Reader_readBracket (one : Mem → Option Mem) (M : Mem) : Option Mem :=
ob2 (f_Reader_opens M) fun (M2 : Mem) (v3 : Bool) =>
if v3 = true then
(ob (f_Reader_readE one M2) fun (M5 : Mem) =>
ob (f_Reader_expect M5 41) fun (M7 : Mem) =>
bnd (wr M7 18 3 ((M7 18 3) - 1)) fun (M8 : Mem) =>
some M8)
else
(some M2)
def f_Reader_readOneB (one : Mem → Option Mem) (M : Mem) : Option Mem :=
ob (f_Reader_token M) fun (v2 : Int32) =>
if v2 = 13 then
(ob (f_Reader_number M) fun (v16 : Int32) =>
ob (f_Text_add M 19 v16) fun (M18 : Mem) =>
ob (f_Reader_next M18) fun (M20 : Mem) =>
some M20)
else
(jp (fun (M3 : Mem) =>
if v2 = 45 then
(ob (f_Reader_readMinus one M3) fun (M10 : Mem) =>
some M10)
else
(if v2 = 40 then
(ob (f_Reader_readBracket one M3) fun (M8 : Mem) =>
some M8)
else
(ob (f_Reader_fail M3) fun (M6 : Mem) =>
some M6))) fun j4 =>
if v2 < 1 then
(j4 M)
else
(if 6 < v2 then
(j4 M)
else
(ob (f_Text_add M 19 (-v2)) fun (M12 : Mem) =>
ob (f_Reader_next M12) fun (M14 : Mem) =>
some M14)))
def f_Reader_readOne : Nat → Mem → Option Mem
  | 0, _ => none
  | n + 1, M => f_Reader_readOneB (f_Reader_readOne n) M
def f_Reader_read_L31 (j9 : Mem → Option (Mem × Int32)) : Nat → Int32 → Mem → Option (Mem × Int32)
  | 0, _, _ => none
  | fu14 + 1, v12, M13 =>
    if 3 ≤ v12 then
    (j9 M13)
    else
    (ob (f_Reader_expect M13 (7 + v12)) fun (M16 : Mem) =>
    ob (f_Reader_readE (f_Reader_readOne 8) M16) fun (M18 : Mem) =>
    ob (f_Reader_expect M18 59) fun (M20 : Mem) =>
    ob (f_Text_endPart M20 19 v12) fun (M22 : Mem) =>
    bnd (v12 + 1) fun (v23 : Int32) =>
    f_Reader_read_L31 j9 fu14 v23 M22)
def f_Reader_read (M : Mem) : Option (Mem × Int32) :=
bnd (wr M 18 3 0) fun (M1 : Mem) =>
bnd (wr M1 18 4 (-1)) fun (M2 : Mem) =>
ob (f_Text_clear M2 19) fun (M4 : Mem) =>
bnd (wr M4 18 2 0) fun (M5 : Mem) =>
ob (f_Tape_cut M5) fun (M7 : Mem) =>
jp (fun (M8 : Mem) =>
ob (f_Reader_expect M8 14) fun (M11 : Mem) =>
some (M11, (M11 18 4))) fun j9 =>
f_Reader_read_L31 j9 FU 0 M7
set_option maxHeartbeats 4000000 in
set_option maxRecDepth 20000 in
theorem w_f_Reader_token {X : XT} {M : Mem}  {r : Int32}   (h : f_Reader_token M = some r) : CT layX X 0 yX3_token cX3_token 1 (some .int) [.ref (X.2.2.2.1 18)] M M (some (.int r)) := by
  refine CT.of rfl (Nat.le_of_ble_eq_true rfl) (lv := [(0, .ref (X.2.2.2.1 18))]) rfl (fun Γ K => ?_)
  have K : Kx layX X Γ RX3 cX3_token 1 0 (some .int) := K
  unfold f_Reader_token at h
  refine g_aload_n (pn := 1) K rfl 0 rfl dX3_token_0 ?_
  refine g_geti (pn := 4) K rfl fl_X3_26 lx_18 rfl dX3_token_1 ?_
  refine g_iconst (pn := 5) (v := (-1)) K rfl ic_m1 dX3_token_4 ?_
  refine g_icmp_ne (tgt := 40) (pn := 8) K rfl (by decide) dX3_token_5 h (fun h => ?_) (fun h => ?_)
  · refine g_bipush (pn := 42) (v := 15) K rfl bp_15 dX3_token_40 ?_
    exact g_iret K dX3_token_42 (oi h) rfl
  · refine g_aload_n (pn := 9) K rfl 0 rfl dX3_token_8 ?_
    refine g_geti (pn := 12) K rfl fl_X3_32 lx_18 rfl dX3_token_9 ?_
    refine g_if_lt (tgt := 40) (pn := 15) K rfl (by decide) dX3_token_12 h (fun h => ?_) (fun h => ?_)
    · refine g_bipush (pn := 42) (v := 15) K rfl bp_15 dX3_token_40 ?_
      exact g_iret K dX3_token_42 (oi h) rfl
    · refine g_aload_n (pn := 16) K rfl 0 rfl dX3_token_15 ?_
      refine g_geti (pn := 19) K rfl fl_X3_32 lx_18 rfl dX3_token_16 ?_
      refine g_sipush (pn := 22) (v := 160) K rfl sp_160 dX3_token_19 ?_
      refine g_icmp_gt (tgt := 40) (pn := 25) K rfl (by decide) dX3_token_22 h (fun h => ?_) (fun h => ?_)
      · refine g_bipush (pn := 42) (v := 15) K rfl bp_15 dX3_token_40 ?_
        exact g_iret K dX3_token_42 (oi h) rfl
      · refine g_aload_n (pn := 26) K rfl 0 rfl dX3_token_25 ?_
        refine g_getr (pn := 29) (j := 13) K rfl fl_X3_18 lx_18 rfl dX3_token_26 ?_
        refine g_getr (pn := 32) (j := 15) K rfl fl_X3_54 lx_13 rfl dX3_token_29 ?_
        refine g_aload_n (pn := 33) K rfl 0 rfl dX3_token_32 ?_
        refine g_geti (pn := 36) K rfl fl_X3_32 lx_18 rfl dX3_token_33 ?_
        refine g_iald (pn := 37) K rfl lx_15 dX3_token_36 h (fun h => ?_)
        refine g_goto (tgt := 42) K (by decide) dX3_token_37 ?_
        exact g_iret K dX3_token_42 (oi h) rfl
set_option maxHeartbeats 4000000 in
set_option maxRecDepth 20000 in
theorem w_f_Reader_is {X : XT} {M : Mem} {a1 : Int32} {r : Bool}   (h : f_Reader_is M a1 = some r) : CT layX X 1 yX3_is cX3_is 2 (some .boolean) [.ref (X.2.2.2.1 18), .int a1] M M (some (.int (b2i r))) := by
  refine CT.of rfl (Nat.le_of_ble_eq_true rfl) (lv := [(0, .ref (X.2.2.2.1 18)), (1, .int a1)]) rfl (fun Γ K => ?_)
  have K : Kx layX X Γ RX3 cX3_is 2 1 (some .boolean) := K
  unfold f_Reader_is at h
  refine g_aload_n (pn := 1) K rfl 0 rfl dX3_is_0 ?_
  obtain ⟨v2, hc1, h⟩ := ob_e h
  refine g_callV1 (pn := 4) (As := []) (rest := []) (a := 18) K rfl (d' := 0) (Nat.le_of_ble_eq_true rfl) mv_X3_50 (recvO K lx_18 rfl) (w_f_Reader_token hc1) rfl rfl (Nat.le_of_ble_eq_true rfl) dX3_is_1 ?_
  refine g_iload_n (pn := 5) K rfl 1 rfl dX3_is_4 ?_
  refine g_icmp_ne (tgt := 12) (pn := 8) K rfl (by decide) dX3_is_5 h (fun h => ?_) (fun h => ?_)
  · refine g_iconst (pn := 13) (v := 0) K rfl ic_0 dX3_is_12 ?_
    exact g_zret K rfl dX3_is_13 (bq0 (oi h)) rfl
  · refine g_iconst (pn := 9) (v := 1) K rfl ic_1 dX3_is_8 ?_
    refine g_goto (tgt := 13) K (by decide) dX3_is_9 ?_
    exact g_zret K rfl dX3_is_13 (bq1 (oi h)) rfl
set_option maxHeartbeats 4000000 in
set_option maxRecDepth 20000 in
theorem w_f_Reader_next {X : XT} {M : Mem}  {M' : Mem}   (h : f_Reader_next M = some M') : CT layX X 0 yX3_next cX3_next 1 none [.ref (X.2.2.2.1 18)] M M' none := by
  refine CT.of rfl (Nat.le_of_ble_eq_true rfl) (lv := [(0, .ref (X.2.2.2.1 18))]) rfl (fun Γ K => ?_)
  have K : Kx layX X Γ RX3 cX3_next 1 0 none := K
  unfold f_Reader_next at h
  refine g_aload_n (pn := 1) K rfl 0 rfl dX3_next_0 ?_
  refine g_geti (pn := 4) K rfl fl_X3_32 lx_18 rfl dX3_next_1 ?_
  refine g_aload_n (pn := 5) K rfl 0 rfl dX3_next_4 ?_
  refine g_getr (pn := 8) (j := 13) K rfl fl_X3_18 lx_18 rfl dX3_next_5 ?_
  refine g_geti (pn := 11) K rfl fl_X3_58 lx_13 rfl dX3_next_8 ?_
  refine g_icmp_ge (tgt := 34) (pn := 14) K rfl (by decide) dX3_next_11 h (fun h => ?_) (fun h => ?_)
  · exact g_vret K dX3_next_34 (oi h)
  · refine g_aload_n (pn := 15) K rfl 0 rfl dX3_next_14 ?_
    refine g_geti (pn := 18) K rfl fl_X3_32 lx_18 rfl dX3_next_15 ?_
    refine g_sipush (pn := 21) (v := 160) K rfl sp_160 dX3_next_18 ?_
    refine g_icmp_ge (tgt := 34) (pn := 24) K rfl (by decide) dX3_next_21 h (fun h => ?_) (fun h => ?_)
    · exact g_vret K dX3_next_34 (oi h)
    · refine g_aload_n (pn := 25) K rfl 0 rfl dX3_next_24 ?_
      refine g_dup (pn := 26) K rfl rfl dX3_next_25 ?_
      refine g_geti (pn := 29) K rfl fl_X3_32 lx_18 rfl dX3_next_26 ?_
      refine g_iconst (pn := 30) (v := 1) K rfl ic_1 dX3_next_29 ?_
      refine g_iadd (pn := 31) K rfl dX3_next_30 ?_
      refine g_puti (pn := 34) K rfl fp_X3_32 lx_18 rfl dX3_next_31 h (fun M1 h => ?_)
      exact g_vret K dX3_next_34 (oi h)
set_option maxHeartbeats 4000000 in
set_option maxRecDepth 20000 in
theorem w_f_Reader_fail {X : XT} {M : Mem}  {M' : Mem}   (h : f_Reader_fail M = some M') : CT layX X 0 yX3_fail cX3_fail 1 none [.ref (X.2.2.2.1 18)] M M' none := by
  refine CT.of rfl (Nat.le_of_ble_eq_true rfl) (lv := [(0, .ref (X.2.2.2.1 18))]) rfl (fun Γ K => ?_)
  have K : Kx layX X Γ RX3 cX3_fail 1 0 none := K
  unfold f_Reader_fail at h
  refine g_aload_n (pn := 1) K rfl 0 rfl dX3_fail_0 ?_
  refine g_geti (pn := 4) K rfl fl_X3_26 lx_18 rfl dX3_fail_1 ?_
  refine g_iconst (pn := 5) (v := (-1)) K rfl ic_m1 dX3_fail_4 ?_
  refine g_icmp_ne (tgt := 51) (pn := 8) K rfl (by decide) dX3_fail_5 h (fun h => ?_) (fun h => ?_)
  · exact g_vret K dX3_fail_51 (oi h)
  · refine g_aload_n (pn := 9) K rfl 0 rfl dX3_fail_8 ?_
    refine g_aload_n (pn := 10) K rfl 0 rfl dX3_fail_9 ?_
    refine g_geti (pn := 13) K rfl fl_X3_32 lx_18 rfl dX3_fail_10 ?_
    refine jp_e1 h (fun v1 => G layX X Γ 1 (QM layX X Γ none M') 48 [] [.int v1, .ref (X.2.2.2.1 18)] M) (fun v1 h => ?_) (fun j2 hj2 h => ?_)
    · refine g_puti (pn := 51) K rfl fp_X3_26 lx_18 rfl dX3_fail_48 h (fun M3 h => ?_)
      exact g_vret K dX3_fail_51 (oi h)
    refine jp_e1 h (fun u4 => G layX X Γ 1 (QM layX X Γ none M') 41 [(0, .ref (X.2.2.2.1 18))] [.ref (X.2.2.2.1 18)] M) (fun u4 h => ?_) (fun j5 hj5 h => ?_)
    · refine g_aload_n (pn := 42) K rfl 0 rfl dX3_fail_41 ?_
      refine g_getr (pn := 45) (j := 13) K rfl fl_X3_18 lx_18 rfl dX3_fail_42 ?_
      refine g_geti (pn := 48) K rfl fl_X3_64 lx_13 rfl dX3_fail_45 ?_
      refine g_sub [] rfl ?_
      exact hj2 _ h
    refine g_if_lt (tgt := 41) (pn := 16) K rfl (by decide) dX3_fail_13 h (fun h => ?_) (fun h => ?_)
    · exact hj5 _ h
    · refine g_aload_n (pn := 17) K rfl 0 rfl dX3_fail_16 ?_
      refine g_geti (pn := 20) K rfl fl_X3_32 lx_18 rfl dX3_fail_17 ?_
      refine g_sipush (pn := 23) (v := 160) K rfl sp_160 dX3_fail_20 ?_
      refine g_icmp_gt (tgt := 41) (pn := 26) K rfl (by decide) dX3_fail_23 h (fun h => ?_) (fun h => ?_)
      · exact hj5 _ h
      · refine g_aload_n (pn := 27) K rfl 0 rfl dX3_fail_26 ?_
        refine g_getr (pn := 30) (j := 13) K rfl fl_X3_18 lx_18 rfl dX3_fail_27 ?_
        refine g_getr (pn := 33) (j := 16) K rfl fl_X3_61 lx_13 rfl dX3_fail_30 ?_
        refine g_aload_n (pn := 34) K rfl 0 rfl dX3_fail_33 ?_
        refine g_geti (pn := 37) K rfl fl_X3_32 lx_18 rfl dX3_fail_34 ?_
        refine g_iald (pn := 38) K rfl lx_16 dX3_fail_37 h (fun h => ?_)
        refine g_goto (tgt := 48) K (by decide) dX3_fail_38 ?_
        refine g_sub [] rfl ?_
        exact hj2 _ h
set_option maxHeartbeats 4000000 in
set_option maxRecDepth 20000 in
theorem w_f_Reader_expect {X : XT} {M : Mem} {a1 : Int32} {M' : Mem}   (h : f_Reader_expect M a1 = some M') : CT layX X 2 yX3_expect cX3_expect 2 none [.ref (X.2.2.2.1 18), .int a1] M M' none := by
  refine CT.of rfl (Nat.le_of_ble_eq_true rfl) (lv := [(0, .ref (X.2.2.2.1 18)), (1, .int a1)]) rfl (fun Γ K => ?_)
  have K : Kx layX X Γ RX3 cX3_expect 2 2 none := K
  unfold f_Reader_expect at h
  refine g_aload_n (pn := 1) K rfl 0 rfl dX3_expect_0 ?_
  refine g_iload_n (pn := 2) K rfl 1 rfl dX3_expect_1 ?_
  obtain ⟨v2, hc1, h⟩ := ob_e h
  refine g_callV1 (pn := 5) (As := [.int a1]) (rest := []) (a := 18) K rfl (d' := 1) (Nat.le_of_ble_eq_true rfl) mv_X3_67 (recvO K lx_18 rfl) (w_f_Reader_is hc1) rfl rfl (Nat.le_of_ble_eq_true rfl) dX3_expect_2 ?_
  refine g_ifB_eq (tgt := 15) (pn := 8) K rfl (by decide) dX3_expect_5 h (fun h => ?_) (fun h => ?_)
  · refine g_aload_n (pn := 16) K rfl 0 rfl dX3_expect_15 ?_
    obtain ⟨M4, hc3, h⟩ := ob_e h
    refine g_callV0 (pn := 19) (As := []) (rest := []) (a := 18) K rfl (d' := 0) (Nat.le_of_ble_eq_true rfl) mv_X3_74 (recvO K lx_18 rfl) (w_f_Reader_fail hc3) rfl rfl (Nat.le_of_ble_eq_true rfl) dX3_expect_16 ?_
    exact g_vret K dX3_expect_19 (oi h)
  · refine g_aload_n (pn := 9) K rfl 0 rfl dX3_expect_8 ?_
    obtain ⟨M6, hc5, h⟩ := ob_e h
    refine g_callV0 (pn := 12) (As := []) (rest := []) (a := 18) K rfl (d' := 0) (Nat.le_of_ble_eq_true rfl) mv_X3_71 (recvO K lx_18 rfl) (w_f_Reader_next hc5) rfl rfl (Nat.le_of_ble_eq_true rfl) dX3_expect_9 ?_
    refine g_goto (tgt := 19) K (by decide) dX3_expect_12 ?_
    exact g_vret K dX3_expect_19 (oi h)
set_option maxHeartbeats 4000000 in
set_option maxRecDepth 20000 in
theorem w_f_Reader_opens {X : XT} {M : Mem}  {M' : Mem} {r : Bool}   (h : f_Reader_opens M = some (M', r)) : CT layX X 1 yX3_opens cX3_opens 1 (some .boolean) [.ref (X.2.2.2.1 18)] M M' (some (.int (b2i r))) := by
  refine CT.of rfl (Nat.le_of_ble_eq_true rfl) (lv := [(0, .ref (X.2.2.2.1 18))]) rfl (fun Γ K => ?_)
  have K : Kx layX X Γ RX3 cX3_opens 1 1 (some .boolean) := K
  unfold f_Reader_opens at h
  refine g_aload_n (pn := 1) K rfl 0 rfl dX3_opens_0 ?_
  refine g_geti (pn := 4) K rfl fl_X3_22 lx_18 rfl dX3_opens_1 ?_
  refine g_iconst (pn := 5) (v := 5) K rfl ic_5 dX3_opens_4 ?_
  refine g_icmp_lt (tgt := 14) (pn := 8) K rfl (by decide) dX3_opens_5 h (fun h => ?_) (fun h => ?_)
  · refine g_aload_n (pn := 15) K rfl 0 rfl dX3_opens_14 ?_
    refine g_dup (pn := 16) K rfl rfl dX3_opens_15 ?_
    refine g_geti (pn := 19) K rfl fl_X3_22 lx_18 rfl dX3_opens_16 ?_
    refine g_iconst (pn := 20) (v := 1) K rfl ic_1 dX3_opens_19 ?_
    refine g_iadd (pn := 21) K rfl dX3_opens_20 ?_
    refine g_puti (pn := 24) K rfl fp_X3_22 lx_18 rfl dX3_opens_21 h (fun M1 h => ?_)
    refine g_aload_n (pn := 25) K rfl 0 rfl dX3_opens_24 ?_
    obtain ⟨M3, hc2, h⟩ := ob_e h
    refine g_callV0 (pn := 28) (As := []) (rest := []) (a := 18) K rfl (d' := 0) (Nat.le_of_ble_eq_true rfl) mv_X3_71 (recvO K lx_18 rfl) (w_f_Reader_next hc2) rfl rfl (Nat.le_of_ble_eq_true rfl) dX3_opens_25 ?_
    refine g_iconst (pn := 29) (v := 1) K rfl ic_1 dX3_opens_28 ?_
    exact g_zret K rfl dX3_opens_29 (bq1 (oi2 h).2) (oi2 h).1
  · refine g_aload_n (pn := 9) K rfl 0 rfl dX3_opens_8 ?_
    obtain ⟨M5, hc4, h⟩ := ob_e h
    refine g_callV0 (pn := 12) (As := []) (rest := []) (a := 18) K rfl (d' := 0) (Nat.le_of_ble_eq_true rfl) mv_X3_74 (recvO K lx_18 rfl) (w_f_Reader_fail hc4) rfl rfl (Nat.le_of_ble_eq_true rfl) dX3_opens_9 ?_
    refine g_iconst (pn := 13) (v := 0) K rfl ic_0 dX3_opens_12 ?_
    exact g_zret K rfl dX3_opens_13 (bq0 (oi2 h).2) (oi2 h).1
set_option maxHeartbeats 4000000 in
set_option maxRecDepth 20000 in
theorem w_f_Reader_number {X : XT} {M : Mem}  {r : Int32}   (h : f_Reader_number M = some r) : CT layX X 0 yX3_number cX3_number 1 (some .int) [.ref (X.2.2.2.1 18)] M M (some (.int r)) := by
  refine CT.of rfl (Nat.le_of_ble_eq_true rfl) (lv := [(0, .ref (X.2.2.2.1 18))]) rfl (fun Γ K => ?_)
  have K : Kx layX X Γ RX3 cX3_number 1 0 (some .int) := K
  unfold f_Reader_number at h
  refine g_aload_n (pn := 1) K rfl 0 rfl dX3_number_0 ?_
  refine g_geti (pn := 4) K rfl fl_X3_32 lx_18 rfl dX3_number_1 ?_
  refine g_if_lt (tgt := 32) (pn := 7) K rfl (by decide) dX3_number_4 h (fun h => ?_) (fun h => ?_)
  · refine g_iconst (pn := 33) (v := 0) K rfl ic_0 dX3_number_32 ?_
    exact g_iret K dX3_number_33 (oi h) rfl
  · refine g_aload_n (pn := 8) K rfl 0 rfl dX3_number_7 ?_
    refine g_geti (pn := 11) K rfl fl_X3_32 lx_18 rfl dX3_number_8 ?_
    refine g_sipush (pn := 14) (v := 160) K rfl sp_160 dX3_number_11 ?_
    refine g_icmp_gt (tgt := 32) (pn := 17) K rfl (by decide) dX3_number_14 h (fun h => ?_) (fun h => ?_)
    · refine g_iconst (pn := 33) (v := 0) K rfl ic_0 dX3_number_32 ?_
      exact g_iret K dX3_number_33 (oi h) rfl
    · refine g_aload_n (pn := 18) K rfl 0 rfl dX3_number_17 ?_
      refine g_getr (pn := 21) (j := 13) K rfl fl_X3_18 lx_18 rfl dX3_number_18 ?_
      refine g_getr (pn := 24) (j := 17) K rfl fl_X3_111 lx_13 rfl dX3_number_21 ?_
      refine g_aload_n (pn := 25) K rfl 0 rfl dX3_number_24 ?_
      refine g_geti (pn := 28) K rfl fl_X3_32 lx_18 rfl dX3_number_25 ?_
      refine g_iald (pn := 29) K rfl lx_17 dX3_number_28 h (fun h => ?_)
      refine g_goto (tgt := 33) K (by decide) dX3_number_29 ?_
      exact g_iret K dX3_number_33 (oi h) rfl
set_option maxHeartbeats 4000000 in
set_option maxRecDepth 20000 in
theorem w_f_Reader_readTerm {X : XT} {M : Mem} {one : Mem → Option Mem} {M' : Mem}  {D : Nat} (hD : 4 ≤ D) (hone : ∀ M M' : Mem, one M = some M' → CT layX X D yX3_readOne cX3_readOne 2 none [.ref (X.2.2.2.1 18)] M M' none) (h : f_Reader_readTerm one M = some M') : CT layX X (D + 1) yX3_readTerm cX3_readTerm 2 none [.ref (X.2.2.2.1 18)] M M' none := by
  refine CT.of rfl (Nat.le_of_ble_eq_true rfl) (lv := [(0, .ref (X.2.2.2.1 18))]) rfl (fun Γ K => ?_)
  have K : Kx layX X Γ RX3 cX3_readTerm 2 (D + 1) none := K
  unfold f_Reader_readTerm at h
  refine g_aload_n (pn := 1) K rfl 0 rfl dX3_readTerm_0 ?_
  obtain ⟨M2, hc1, h⟩ := ob_e h
  refine g_callV0 (pn := 4) (As := []) (rest := []) (a := 18) K rfl (d' := D) (by omega) mv_X3_99 (recvO K lx_18 rfl) (hone _ _ hc1) rfl rfl (Nat.le_of_ble_eq_true rfl) dX3_readTerm_1 ?_
  refine g_iconst (pn := 5) (v := 0) K rfl ic_0 dX3_readTerm_4 ?_
  refine g_istore_n (pn := 6) (lv' := [(1, .int 0), (0, .ref (X.2.2.2.1 18))]) K rfl dX3_readTerm_5 rfl (Nat.le_of_ble_eq_true rfl) rfl ?_
  refine jp_e1 h (fun M3 => G layX X Γ 2 (QM layX X Γ none M') 45 [] [] M3) (fun M3 h => ?_) (fun j4 hj4 h => ?_)
  · exact g_vret K dX3_readTerm_45 (oi h)
  have LP6 : ∀ (fu7 : Nat) (v5 : Int32) (M6 : Mem), f_Reader_readTerm_L6 one j4 fu7 v5 M6 = some M' → G layX X Γ 2 (QM layX X Γ none M') 6 [(0, .ref (X.2.2.2.1 18)), (1, .int v5)] [] M6 := by
    intro fu7
    induction fu7 with
    | zero =>
      intro v5 M6 h
      rw [f_Reader_readTerm_L6] at h
      cases h
    | succ fu7 ih7 =>
      intro v5 M6 h
      rw [f_Reader_readTerm_L6] at h
      refine g_iload_n (pn := 7) K rfl 1 rfl dX3_readTerm_6 ?_
      refine g_sipush (pn := 10) (v := 160) K rfl sp_160 dX3_readTerm_7 ?_
      refine g_icmp_ge (tgt := 45) (pn := 13) K rfl (by decide) dX3_readTerm_10 h (fun h => ?_) (fun h => ?_)
      · refine g_sub [] rfl ?_
        exact hj4 _ h
      · refine g_aload_n (pn := 14) K rfl 0 rfl dX3_readTerm_13 ?_
        refine g_bipush (pn := 16) (v := 42) K rfl bp_42 dX3_readTerm_14 ?_
        obtain ⟨v9, hc8, h⟩ := ob_e h
        refine g_callV1 (pn := 19) (As := [.int 42]) (rest := []) (a := 18) K rfl (d' := 1) (by omega) mv_X3_67 (recvO K lx_18 rfl) (w_f_Reader_is hc8) rfl rfl (Nat.le_of_ble_eq_true rfl) dX3_readTerm_16 ?_
        refine g_ifB_eq (tgt := 45) (pn := 22) K rfl (by decide) dX3_readTerm_19 h (fun h => ?_) (fun h => ?_)
        · refine g_sub [] rfl ?_
          exact hj4 _ h
        · refine g_aload_n (pn := 23) K rfl 0 rfl dX3_readTerm_22 ?_
          obtain ⟨M11, hc10, h⟩ := ob_e h
          refine g_callV0 (pn := 26) (As := []) (rest := []) (a := 18) K rfl (d' := 0) (by omega) mv_X3_71 (recvO K lx_18 rfl) (w_f_Reader_next hc10) rfl rfl (Nat.le_of_ble_eq_true rfl) dX3_readTerm_23 ?_
          refine g_aload_n (pn := 27) K rfl 0 rfl dX3_readTerm_26 ?_
          obtain ⟨M13, hc12, h⟩ := ob_e h
          refine g_callV0 (pn := 30) (As := []) (rest := []) (a := 18) K rfl (d' := D) (by omega) mv_X3_99 (recvO K lx_18 rfl) (hone _ _ hc12) rfl rfl (Nat.le_of_ble_eq_true rfl) dX3_readTerm_27 ?_
          refine g_aload_n (pn := 31) K rfl 0 rfl dX3_readTerm_30 ?_
          refine g_getr (pn := 34) (j := 19) K rfl fl_X3_12 lx_18 rfl dX3_readTerm_31 ?_
          refine g_bipush (pn := 36) (v := (-42)) K rfl bp_m42 dX3_readTerm_34 ?_
          obtain ⟨M15, hc14, h⟩ := ob_e h
          refine g_callV0 (pn := 39) (As := [.int (-42)]) (rest := []) (a := 19) K rfl (d' := 0) (by omega) mv_X3_80 (recvO K lx_19 rfl) (w_f_Text_add (Or.inl rfl) hc14) rfl rfl (Nat.le_of_ble_eq_true rfl) dX3_readTerm_36 ?_
          obtain ⟨v16, ev16, h⟩ := bnd_e h
          refine g_iinc (pn := 42) (v := v16) (lv' := [(1, .int v16), (0, .ref (X.2.2.2.1 18))]) K rfl 1 rfl ii_1 ev16 dX3_readTerm_39 (Nat.le_of_ble_eq_true rfl) rfl ?_
          refine g_goto (tgt := 6) K (by decide) dX3_readTerm_42 ?_
          refine g_sub [1, 0] rfl ?_
          exact ih7 _ _ h
  refine g_sub [1, 0] rfl ?_
  exact LP6 FU _ _ h
set_option maxHeartbeats 4000000 in
set_option maxRecDepth 20000 in
theorem w_f_Reader_readSum {X : XT} {M : Mem} {one : Mem → Option Mem} {M' : Mem}  {D : Nat} (hD : 4 ≤ D) (hone : ∀ M M' : Mem, one M = some M' → CT layX X D yX3_readOne cX3_readOne 2 none [.ref (X.2.2.2.1 18)] M M' none) (h : f_Reader_readSum one M = some M') : CT layX X (D + 2) yX3_readSum cX3_readSum 3 none [.ref (X.2.2.2.1 18)] M M' none := by
  refine CT.of rfl (Nat.le_of_ble_eq_true rfl) (lv := [(0, .ref (X.2.2.2.1 18))]) rfl (fun Γ K => ?_)
  have K : Kx layX X Γ RX3 cX3_readSum 3 (D + 2) none := K
  unfold f_Reader_readSum at h
  refine g_aload_n (pn := 1) K rfl 0 rfl dX3_readSum_0 ?_
  obtain ⟨M2, hc1, h⟩ := ob_e h
  refine g_callV0 (pn := 4) (As := []) (rest := []) (a := 18) K rfl (d' := (D + 1)) (by omega) mv_X3_96 (recvO K lx_18 rfl) (w_f_Reader_readTerm hD hone hc1) rfl rfl (Nat.le_of_ble_eq_true rfl) dX3_readSum_1 ?_
  refine g_iconst (pn := 5) (v := 0) K rfl ic_0 dX3_readSum_4 ?_
  refine g_istore_n (pn := 6) (lv' := [(1, .int 0), (0, .ref (X.2.2.2.1 18))]) K rfl dX3_readSum_5 rfl (Nat.le_of_ble_eq_true rfl) rfl ?_
  refine jp_e1 h (fun M3 => G layX X Γ 3 (QM layX X Γ none M') 59 [] [] M3) (fun M3 h => ?_) (fun j4 hj4 h => ?_)
  · exact g_vret K dX3_readSum_59 (oi h)
  have LP6 : ∀ (fu7 : Nat) (v5 : Int32) (M6 : Mem), f_Reader_readSum_L6 one j4 fu7 v5 M6 = some M' → G layX X Γ 3 (QM layX X Γ none M') 6 [(0, .ref (X.2.2.2.1 18)), (1, .int v5)] [] M6 := by
    intro fu7
    induction fu7 with
    | zero =>
      intro v5 M6 h
      rw [f_Reader_readSum_L6] at h
      cases h
    | succ fu7 ih7 =>
      intro v5 M6 h
      rw [f_Reader_readSum_L6] at h
      refine g_iload_n (pn := 7) K rfl 1 rfl dX3_readSum_6 ?_
      refine g_sipush (pn := 10) (v := 160) K rfl sp_160 dX3_readSum_7 ?_
      refine g_icmp_ge (tgt := 59) (pn := 13) K rfl (by decide) dX3_readSum_10 h (fun h => ?_) (fun h => ?_)
      · refine g_sub [] rfl ?_
        exact hj4 _ h
      · refine g_aload_n (pn := 14) K rfl 0 rfl dX3_readSum_13 ?_
        refine g_bipush (pn := 16) (v := 43) K rfl bp_43 dX3_readSum_14 ?_
        obtain ⟨v9, hc8, h⟩ := ob_e h
        refine g_callV1 (pn := 19) (As := [.int 43]) (rest := []) (a := 18) K rfl (d' := 1) (by omega) mv_X3_67 (recvO K lx_18 rfl) (w_f_Reader_is hc8) rfl rfl (Nat.le_of_ble_eq_true rfl) dX3_readSum_16 ?_
        refine jp_e1 h (fun u10 => G layX X Γ 3 (QM layX X Γ none M') 31 [(0, .ref (X.2.2.2.1 18)), (1, .int v5)] [] M6) (fun u10 h => ?_) (fun j11 hj11 h => ?_)
        · refine g_aload_n (pn := 32) K rfl 0 rfl dX3_readSum_31 ?_
          obtain ⟨v13, hc12, h⟩ := ob_e h
          refine g_callV1 (pn := 35) (As := []) (rest := []) (a := 18) K rfl (d' := 0) (by omega) mv_X3_50 (recvO K lx_18 rfl) (w_f_Reader_token hc12) rfl rfl (Nat.le_of_ble_eq_true rfl) dX3_readSum_32 ?_
          refine g_istore_n (pn := 36) (lv' := [(2, .int v13), (0, .ref (X.2.2.2.1 18)), (1, .int v5)]) K rfl dX3_readSum_35 rfl (Nat.le_of_ble_eq_true rfl) rfl ?_
          refine g_aload_n (pn := 37) K rfl 1 rfl dX3_readSum_36 ?_
          obtain ⟨M15, hc14, h⟩ := ob_e h
          refine g_callV0 (pn := 40) (As := []) (rest := []) (a := 18) K rfl (d' := 0) (by omega) mv_X3_71 (recvO K lx_18 rfl) (w_f_Reader_next hc14) rfl rfl (Nat.le_of_ble_eq_true rfl) dX3_readSum_37 ?_
          refine g_aload_n (pn := 41) K rfl 1 rfl dX3_readSum_40 ?_
          obtain ⟨M17, hc16, h⟩ := ob_e h
          refine g_callV0 (pn := 44) (As := []) (rest := []) (a := 18) K rfl (d' := (D + 1)) (by omega) mv_X3_96 (recvO K lx_18 rfl) (w_f_Reader_readTerm hD hone hc16) rfl rfl (Nat.le_of_ble_eq_true rfl) dX3_readSum_41 ?_
          refine g_aload_n (pn := 45) K rfl 1 rfl dX3_readSum_44 ?_
          refine g_getr (pn := 48) (j := 19) K rfl fl_X3_12 lx_18 rfl dX3_readSum_45 ?_
          refine g_iload_n (pn := 49) K rfl 0 rfl dX3_readSum_48 ?_
          refine g_ineg (pn := 50) K rfl dX3_readSum_49 ?_
          obtain ⟨M19, hc18, h⟩ := ob_e h
          refine g_callV0 (pn := 53) (As := [.int (-v13)]) (rest := []) (a := 19) K rfl (d' := 0) (by omega) mv_X3_80 (recvO K lx_19 rfl) (w_f_Text_add (Or.inl rfl) hc18) rfl rfl (Nat.le_of_ble_eq_true rfl) dX3_readSum_50 ?_
          obtain ⟨v20, ev20, h⟩ := bnd_e h
          refine g_iinc (pn := 56) (v := v20) (lv' := [(1, .int v20), (2, .int v13), (0, .ref (X.2.2.2.1 18))]) K rfl 2 rfl ii_1 ev20 dX3_readSum_53 (Nat.le_of_ble_eq_true rfl) rfl ?_
          refine g_goto (tgt := 6) K (by decide) dX3_readSum_56 ?_
          refine g_sub [2, 0] rfl ?_
          exact ih7 _ _ h
        refine g_ifB_ne (tgt := 31) (pn := 22) K rfl (by decide) dX3_readSum_19 h (fun h => ?_) (fun h => ?_)
        · exact hj11 _ h
        · refine g_aload_n (pn := 23) K rfl 0 rfl dX3_readSum_22 ?_
          refine g_bipush (pn := 25) (v := 45) K rfl bp_45 dX3_readSum_23 ?_
          obtain ⟨v22, hc21, h⟩ := ob_e h
          refine g_callV1 (pn := 28) (As := [.int 45]) (rest := []) (a := 18) K rfl (d' := 1) (by omega) mv_X3_67 (recvO K lx_18 rfl) (w_f_Reader_is hc21) rfl rfl (Nat.le_of_ble_eq_true rfl) dX3_readSum_25 ?_
          refine g_ifB_eq (tgt := 59) (pn := 31) K rfl (by decide) dX3_readSum_28 h (fun h => ?_) (fun h => ?_)
          · refine g_sub [] rfl ?_
            exact hj4 _ h
          · exact hj11 _ h
  refine g_sub [1, 0] rfl ?_
  exact LP6 FU _ _ h
set_option maxHeartbeats 4000000 in
set_option maxRecDepth 20000 in
theorem w_f_Reader_readCompared {X : XT} {M : Mem} {one : Mem → Option Mem} {M' : Mem}  {D : Nat} (hD : 4 ≤ D) (hone : ∀ M M' : Mem, one M = some M' → CT layX X D yX3_readOne cX3_readOne 2 none [.ref (X.2.2.2.1 18)] M M' none) (h : f_Reader_readCompared one M = some M') : CT layX X (D + 3) yX3_readCompared cX3_readCompared 2 none [.ref (X.2.2.2.1 18)] M M' none := by
  refine CT.of rfl (Nat.le_of_ble_eq_true rfl) (lv := [(0, .ref (X.2.2.2.1 18))]) rfl (fun Γ K => ?_)
  have K : Kx layX X Γ RX3 cX3_readCompared 2 (D + 3) none := K
  unfold f_Reader_readCompared at h
  refine g_aload_n (pn := 1) K rfl 0 rfl dX3_readCompared_0 ?_
  obtain ⟨M2, hc1, h⟩ := ob_e h
  refine g_callV0 (pn := 4) (As := []) (rest := []) (a := 18) K rfl (d' := (D + 2)) (by omega) mv_X3_93 (recvO K lx_18 rfl) (w_f_Reader_readSum hD hone hc1) rfl rfl (Nat.le_of_ble_eq_true rfl) dX3_readCompared_1 ?_
  refine g_aload_n (pn := 5) K rfl 0 rfl dX3_readCompared_4 ?_
  refine g_bipush (pn := 7) (v := 60) K rfl bp_60 dX3_readCompared_5 ?_
  obtain ⟨v4, hc3, h⟩ := ob_e h
  refine g_callV1 (pn := 10) (As := [.int 60]) (rest := []) (a := 18) K rfl (d' := 1) (by omega) mv_X3_67 (recvO K lx_18 rfl) (w_f_Reader_is hc3) rfl rfl (Nat.le_of_ble_eq_true rfl) dX3_readCompared_7 ?_
  refine jp_e1 h (fun u5 => G layX X Γ 2 (QM layX X Γ none M') 22 [(0, .ref (X.2.2.2.1 18))] [] M2) (fun u5 h => ?_) (fun j6 hj6 h => ?_)
  · refine g_aload_n (pn := 23) K rfl 0 rfl dX3_readCompared_22 ?_
    obtain ⟨v8, hc7, h⟩ := ob_e h
    refine g_callV1 (pn := 26) (As := []) (rest := []) (a := 18) K rfl (d' := 0) (by omega) mv_X3_50 (recvO K lx_18 rfl) (w_f_Reader_token hc7) rfl rfl (Nat.le_of_ble_eq_true rfl) dX3_readCompared_23 ?_
    refine g_istore_n (pn := 27) (lv' := [(1, .int v8), (0, .ref (X.2.2.2.1 18))]) K rfl dX3_readCompared_26 rfl (Nat.le_of_ble_eq_true rfl) rfl ?_
    refine g_aload_n (pn := 28) K rfl 1 rfl dX3_readCompared_27 ?_
    obtain ⟨M10, hc9, h⟩ := ob_e h
    refine g_callV0 (pn := 31) (As := []) (rest := []) (a := 18) K rfl (d' := 0) (by omega) mv_X3_71 (recvO K lx_18 rfl) (w_f_Reader_next hc9) rfl rfl (Nat.le_of_ble_eq_true rfl) dX3_readCompared_28 ?_
    refine g_aload_n (pn := 32) K rfl 1 rfl dX3_readCompared_31 ?_
    obtain ⟨M12, hc11, h⟩ := ob_e h
    refine g_callV0 (pn := 35) (As := []) (rest := []) (a := 18) K rfl (d' := (D + 2)) (by omega) mv_X3_93 (recvO K lx_18 rfl) (w_f_Reader_readSum hD hone hc11) rfl rfl (Nat.le_of_ble_eq_true rfl) dX3_readCompared_32 ?_
    refine g_aload_n (pn := 36) K rfl 1 rfl dX3_readCompared_35 ?_
    refine g_getr (pn := 39) (j := 19) K rfl fl_X3_12 lx_18 rfl dX3_readCompared_36 ?_
    refine g_iload_n (pn := 40) K rfl 0 rfl dX3_readCompared_39 ?_
    refine g_ineg (pn := 41) K rfl dX3_readCompared_40 ?_
    obtain ⟨M14, hc13, h⟩ := ob_e h
    refine g_callV0 (pn := 44) (As := [.int (-v8)]) (rest := []) (a := 19) K rfl (d' := 0) (by omega) mv_X3_80 (recvO K lx_19 rfl) (w_f_Text_add (Or.inl rfl) hc13) rfl rfl (Nat.le_of_ble_eq_true rfl) dX3_readCompared_41 ?_
    exact g_vret K dX3_readCompared_44 (oi h)
  refine g_ifB_ne (tgt := 22) (pn := 13) K rfl (by decide) dX3_readCompared_10 h (fun h => ?_) (fun h => ?_)
  · exact hj6 _ h
  · refine g_aload_n (pn := 14) K rfl 0 rfl dX3_readCompared_13 ?_
    refine g_bipush (pn := 16) (v := 61) K rfl bp_61 dX3_readCompared_14 ?_
    obtain ⟨v16, hc15, h⟩ := ob_e h
    refine g_callV1 (pn := 19) (As := [.int 61]) (rest := []) (a := 18) K rfl (d' := 1) (by omega) mv_X3_67 (recvO K lx_18 rfl) (w_f_Reader_is hc15) rfl rfl (Nat.le_of_ble_eq_true rfl) dX3_readCompared_16 ?_
    refine g_ifB_eq (tgt := 44) (pn := 22) K rfl (by decide) dX3_readCompared_19 h (fun h => ?_) (fun h => ?_)
    · exact g_vret K dX3_readCompared_44 (oi h)
    · exact hj6 _ h
set_option maxHeartbeats 4000000 in
set_option maxRecDepth 20000 in
theorem w_f_Reader_readNotB {X : XT} {M : Mem} {one : Mem → Option Mem} {slf : Mem → Option Mem} {M' : Mem}  {D : Nat} (hD : 4 ≤ D) (hone : ∀ M M' : Mem, one M = some M' → CT layX X D yX3_readOne cX3_readOne 2 none [.ref (X.2.2.2.1 18)] M M' none) {E : Nat} (hE : D + 3 ≤ E) (hslf : ∀ M M' : Mem, slf M = some M' → CT layX X E yX3_readNot cX3_readNot 1 none [.ref (X.2.2.2.1 18)] M M' none) (h : f_Reader_readNotB one slf M = some M') : CT layX X (E + 1) yX3_readNot cX3_readNot 1 none [.ref (X.2.2.2.1 18)] M M' none := by
  refine CT.of rfl (Nat.le_of_ble_eq_true rfl) (lv := [(0, .ref (X.2.2.2.1 18))]) rfl (fun Γ K => ?_)
  have K : Kx layX X Γ RX3 cX3_readNot 1 (E + 1) none := K
  unfold f_Reader_readNotB at h
  refine g_aload_n (pn := 1) K rfl 0 rfl dX3_readNot_0 ?_
  refine g_bipush (pn := 3) (v := 12) K rfl bp_12 dX3_readNot_1 ?_
  obtain ⟨v2, hc1, h⟩ := ob_e h
  refine g_callV1 (pn := 6) (As := [.int 12]) (rest := []) (a := 18) K rfl (d' := 1) (by omega) mv_X3_67 (recvO K lx_18 rfl) (w_f_Reader_is hc1) rfl rfl (Nat.le_of_ble_eq_true rfl) dX3_readNot_3 ?_
  refine g_ifB_ne (tgt := 16) (pn := 9) K rfl (by decide) dX3_readNot_6 h (fun h => ?_) (fun h => ?_)
  · refine g_aload_n (pn := 17) K rfl 0 rfl dX3_readNot_16 ?_
    obtain ⟨M4, v5, hc3, h⟩ := ob2_e h
    refine g_callV1 (pn := 20) (As := []) (rest := []) (a := 18) K rfl (d' := 1) (by omega) mv_X3_89 (recvO K lx_18 rfl) (w_f_Reader_opens hc3) rfl rfl (Nat.le_of_ble_eq_true rfl) dX3_readNot_17 ?_
    refine g_ifB_eq (tgt := 46) (pn := 23) K rfl (by decide) dX3_readNot_20 h (fun h => ?_) (fun h => ?_)
    · exact g_vret K dX3_readNot_46 (oi h)
    · refine g_aload_n (pn := 24) K rfl 0 rfl dX3_readNot_23 ?_
      obtain ⟨M7, hc6, h⟩ := ob_e h
      refine g_callV0 (pn := 27) (As := []) (rest := []) (a := 18) K rfl (d' := E) (by omega) mv_X3_83 (recvO K lx_18 rfl) (hslf _ _ hc6) rfl rfl (Nat.le_of_ble_eq_true rfl) dX3_readNot_24 ?_
      refine g_aload_n (pn := 28) K rfl 0 rfl dX3_readNot_27 ?_
      refine g_dup (pn := 29) K rfl rfl dX3_readNot_28 ?_
      refine g_geti (pn := 32) K rfl fl_X3_22 lx_18 rfl dX3_readNot_29 ?_
      refine g_iconst (pn := 33) (v := 1) K rfl ic_1 dX3_readNot_32 ?_
      refine g_isub (pn := 34) K rfl dX3_readNot_33 ?_
      refine g_puti (pn := 37) K rfl fp_X3_22 lx_18 rfl dX3_readNot_34 h (fun M8 h => ?_)
      refine g_aload_n (pn := 38) K rfl 0 rfl dX3_readNot_37 ?_
      refine g_getr (pn := 41) (j := 19) K rfl fl_X3_12 lx_18 rfl dX3_readNot_38 ?_
      refine g_bipush (pn := 43) (v := (-12)) K rfl bp_m12 dX3_readNot_41 ?_
      obtain ⟨M10, hc9, h⟩ := ob_e h
      refine g_callV0 (pn := 46) (As := [.int (-12)]) (rest := []) (a := 19) K rfl (d' := 0) (by omega) mv_X3_80 (recvO K lx_19 rfl) (w_f_Text_add (Or.inl rfl) hc9) rfl rfl (Nat.le_of_ble_eq_true rfl) dX3_readNot_43 ?_
      exact g_vret K dX3_readNot_46 (oi h)
  · refine g_aload_n (pn := 10) K rfl 0 rfl dX3_readNot_9 ?_
    obtain ⟨M12, hc11, h⟩ := ob_e h
    refine g_callV0 (pn := 13) (As := []) (rest := []) (a := 18) K rfl (d' := (D + 3)) (by omega) mv_X3_86 (recvO K lx_18 rfl) (w_f_Reader_readCompared hD hone hc11) rfl rfl (Nat.le_of_ble_eq_true rfl) dX3_readNot_10 ?_
    refine g_goto (tgt := 46) K (by decide) dX3_readNot_13 ?_
    exact g_vret K dX3_readNot_46 (oi h)
theorem w_f_Reader_readNot {X : XT} {one : Mem → Option Mem} {D : Nat} (hD : 4 ≤ D) (hone : ∀ M M' : Mem, one M = some M' → CT layX X D yX3_readOne cX3_readOne 2 none [.ref (X.2.2.2.1 18)] M M' none) (k : Nat) : ∀ {M M' : Mem}, f_Reader_readNot one k M = some M' → CT layX X (D + 4 + k) yX3_readNot cX3_readNot 1 none [.ref (X.2.2.2.1 18)] M M' none := by
  induction k with
  | zero =>
    intro M M' h
    rw [f_Reader_readNot] at h
    cases h
  | succ k ih =>
    intro M M' h
    rw [f_Reader_readNot] at h
    exact w_f_Reader_readNotB (E := D + 4 + k) hD hone (by omega) (fun M M' h => ih h) h
set_option maxHeartbeats 4000000 in
set_option maxRecDepth 20000 in
theorem w_f_Reader_readAnd {X : XT} {M : Mem} {one : Mem → Option Mem} {M' : Mem}  {D : Nat} (hD : 4 ≤ D) (hone : ∀ M M' : Mem, one M = some M' → CT layX X D yX3_readOne cX3_readOne 2 none [.ref (X.2.2.2.1 18)] M M' none) (h : f_Reader_readAnd one M = some M') : CT layX X (D + 15) yX3_readAnd cX3_readAnd 2 none [.ref (X.2.2.2.1 18)] M M' none := by
  refine CT.of rfl (Nat.le_of_ble_eq_true rfl) (lv := [(0, .ref (X.2.2.2.1 18))]) rfl (fun Γ K => ?_)
  have K : Kx layX X Γ RX3 cX3_readAnd 2 (D + 15) none := K
  unfold f_Reader_readAnd at h
  refine g_aload_n (pn := 1) K rfl 0 rfl dX3_readAnd_0 ?_
  obtain ⟨M2, hc1, h⟩ := ob_e h
  refine g_callV0 (pn := 4) (As := []) (rest := []) (a := 18) K rfl (d' := (D + 14)) (by omega) mv_X3_83 (recvO K lx_18 rfl) (w_f_Reader_readNot hD hone 10 hc1) rfl rfl (Nat.le_of_ble_eq_true rfl) dX3_readAnd_1 ?_
  refine g_iconst (pn := 5) (v := 0) K rfl ic_0 dX3_readAnd_4 ?_
  refine g_istore_n (pn := 6) (lv' := [(1, .int 0), (0, .ref (X.2.2.2.1 18))]) K rfl dX3_readAnd_5 rfl (Nat.le_of_ble_eq_true rfl) rfl ?_
  refine jp_e1 h (fun M3 => G layX X Γ 2 (QM layX X Γ none M') 45 [] [] M3) (fun M3 h => ?_) (fun j4 hj4 h => ?_)
  · exact g_vret K dX3_readAnd_45 (oi h)
  have LP6 : ∀ (fu7 : Nat) (v5 : Int32) (M6 : Mem), f_Reader_readAnd_L6 one j4 fu7 v5 M6 = some M' → G layX X Γ 2 (QM layX X Γ none M') 6 [(0, .ref (X.2.2.2.1 18)), (1, .int v5)] [] M6 := by
    intro fu7
    induction fu7 with
    | zero =>
      intro v5 M6 h
      rw [f_Reader_readAnd_L6] at h
      cases h
    | succ fu7 ih7 =>
      intro v5 M6 h
      rw [f_Reader_readAnd_L6] at h
      refine g_iload_n (pn := 7) K rfl 1 rfl dX3_readAnd_6 ?_
      refine g_sipush (pn := 10) (v := 160) K rfl sp_160 dX3_readAnd_7 ?_
      refine g_icmp_ge (tgt := 45) (pn := 13) K rfl (by decide) dX3_readAnd_10 h (fun h => ?_) (fun h => ?_)
      · refine g_sub [] rfl ?_
        exact hj4 _ h
      · refine g_aload_n (pn := 14) K rfl 0 rfl dX3_readAnd_13 ?_
        refine g_bipush (pn := 16) (v := 11) K rfl bp_11 dX3_readAnd_14 ?_
        obtain ⟨v9, hc8, h⟩ := ob_e h
        refine g_callV1 (pn := 19) (As := [.int 11]) (rest := []) (a := 18) K rfl (d' := 1) (by omega) mv_X3_67 (recvO K lx_18 rfl) (w_f_Reader_is hc8) rfl rfl (Nat.le_of_ble_eq_true rfl) dX3_readAnd_16 ?_
        refine g_ifB_eq (tgt := 45) (pn := 22) K rfl (by decide) dX3_readAnd_19 h (fun h => ?_) (fun h => ?_)
        · refine g_sub [] rfl ?_
          exact hj4 _ h
        · refine g_aload_n (pn := 23) K rfl 0 rfl dX3_readAnd_22 ?_
          obtain ⟨M11, hc10, h⟩ := ob_e h
          refine g_callV0 (pn := 26) (As := []) (rest := []) (a := 18) K rfl (d' := 0) (by omega) mv_X3_71 (recvO K lx_18 rfl) (w_f_Reader_next hc10) rfl rfl (Nat.le_of_ble_eq_true rfl) dX3_readAnd_23 ?_
          refine g_aload_n (pn := 27) K rfl 0 rfl dX3_readAnd_26 ?_
          obtain ⟨M13, hc12, h⟩ := ob_e h
          refine g_callV0 (pn := 30) (As := []) (rest := []) (a := 18) K rfl (d' := (D + 14)) (by omega) mv_X3_83 (recvO K lx_18 rfl) (w_f_Reader_readNot hD hone 10 hc12) rfl rfl (Nat.le_of_ble_eq_true rfl) dX3_readAnd_27 ?_
          refine g_aload_n (pn := 31) K rfl 0 rfl dX3_readAnd_30 ?_
          refine g_getr (pn := 34) (j := 19) K rfl fl_X3_12 lx_18 rfl dX3_readAnd_31 ?_
          refine g_bipush (pn := 36) (v := (-11)) K rfl bp_m11 dX3_readAnd_34 ?_
          obtain ⟨M15, hc14, h⟩ := ob_e h
          refine g_callV0 (pn := 39) (As := [.int (-11)]) (rest := []) (a := 19) K rfl (d' := 0) (by omega) mv_X3_80 (recvO K lx_19 rfl) (w_f_Text_add (Or.inl rfl) hc14) rfl rfl (Nat.le_of_ble_eq_true rfl) dX3_readAnd_36 ?_
          obtain ⟨v16, ev16, h⟩ := bnd_e h
          refine g_iinc (pn := 42) (v := v16) (lv' := [(1, .int v16), (0, .ref (X.2.2.2.1 18))]) K rfl 1 rfl ii_1 ev16 dX3_readAnd_39 (Nat.le_of_ble_eq_true rfl) rfl ?_
          refine g_goto (tgt := 6) K (by decide) dX3_readAnd_42 ?_
          refine g_sub [1, 0] rfl ?_
          exact ih7 _ _ h
  refine g_sub [1, 0] rfl ?_
  exact LP6 FU _ _ h
set_option maxHeartbeats 4000000 in
set_option maxRecDepth 20000 in
theorem w_f_Reader_readE {X : XT} {M : Mem} {one : Mem → Option Mem} {M' : Mem}  {D : Nat} (hD : 4 ≤ D) (hone : ∀ M M' : Mem, one M = some M' → CT layX X D yX3_readOne cX3_readOne 2 none [.ref (X.2.2.2.1 18)] M M' none) (h : f_Reader_readE one M = some M') : CT layX X (D + 16) yX3_readE cX3_readE 2 none [.ref (X.2.2.2.1 18)] M M' none := by
  refine CT.of rfl (Nat.le_of_ble_eq_true rfl) (lv := [(0, .ref (X.2.2.2.1 18))]) rfl (fun Γ K => ?_)
  have K : Kx layX X Γ RX3 cX3_readE 2 (D + 16) none := K
  unfold f_Reader_readE at h
  refine g_aload_n (pn := 1) K rfl 0 rfl dX3_readE_0 ?_
  obtain ⟨M2, hc1, h⟩ := ob_e h
  refine g_callV0 (pn := 4) (As := []) (rest := []) (a := 18) K rfl (d' := (D + 15)) (by omega) mv_X3_77 (recvO K lx_18 rfl) (w_f_Reader_readAnd hD hone hc1) rfl rfl (Nat.le_of_ble_eq_true rfl) dX3_readE_1 ?_
  refine g_iconst (pn := 5) (v := 0) K rfl ic_0 dX3_readE_4 ?_
  refine g_istore_n (pn := 6) (lv' := [(1, .int 0), (0, .ref (X.2.2.2.1 18))]) K rfl dX3_readE_5 rfl (Nat.le_of_ble_eq_true rfl) rfl ?_
  refine jp_e1 h (fun M3 => G layX X Γ 2 (QM layX X Γ none M') 45 [] [] M3) (fun M3 h => ?_) (fun j4 hj4 h => ?_)
  · exact g_vret K dX3_readE_45 (oi h)
  have LP6 : ∀ (fu7 : Nat) (v5 : Int32) (M6 : Mem), f_Reader_readE_L6 one j4 fu7 v5 M6 = some M' → G layX X Γ 2 (QM layX X Γ none M') 6 [(0, .ref (X.2.2.2.1 18)), (1, .int v5)] [] M6 := by
    intro fu7
    induction fu7 with
    | zero =>
      intro v5 M6 h
      rw [f_Reader_readE_L6] at h
      cases h
    | succ fu7 ih7 =>
      intro v5 M6 h
      rw [f_Reader_readE_L6] at h
      refine g_iload_n (pn := 7) K rfl 1 rfl dX3_readE_6 ?_
      refine g_sipush (pn := 10) (v := 160) K rfl sp_160 dX3_readE_7 ?_
      refine g_icmp_ge (tgt := 45) (pn := 13) K rfl (by decide) dX3_readE_10 h (fun h => ?_) (fun h => ?_)
      · refine g_sub [] rfl ?_
        exact hj4 _ h
      · refine g_aload_n (pn := 14) K rfl 0 rfl dX3_readE_13 ?_
        refine g_bipush (pn := 16) (v := 10) K rfl bp_10 dX3_readE_14 ?_
        obtain ⟨v9, hc8, h⟩ := ob_e h
        refine g_callV1 (pn := 19) (As := [.int 10]) (rest := []) (a := 18) K rfl (d' := 1) (by omega) mv_X3_67 (recvO K lx_18 rfl) (w_f_Reader_is hc8) rfl rfl (Nat.le_of_ble_eq_true rfl) dX3_readE_16 ?_
        refine g_ifB_eq (tgt := 45) (pn := 22) K rfl (by decide) dX3_readE_19 h (fun h => ?_) (fun h => ?_)
        · refine g_sub [] rfl ?_
          exact hj4 _ h
        · refine g_aload_n (pn := 23) K rfl 0 rfl dX3_readE_22 ?_
          obtain ⟨M11, hc10, h⟩ := ob_e h
          refine g_callV0 (pn := 26) (As := []) (rest := []) (a := 18) K rfl (d' := 0) (by omega) mv_X3_71 (recvO K lx_18 rfl) (w_f_Reader_next hc10) rfl rfl (Nat.le_of_ble_eq_true rfl) dX3_readE_23 ?_
          refine g_aload_n (pn := 27) K rfl 0 rfl dX3_readE_26 ?_
          obtain ⟨M13, hc12, h⟩ := ob_e h
          refine g_callV0 (pn := 30) (As := []) (rest := []) (a := 18) K rfl (d' := (D + 15)) (by omega) mv_X3_77 (recvO K lx_18 rfl) (w_f_Reader_readAnd hD hone hc12) rfl rfl (Nat.le_of_ble_eq_true rfl) dX3_readE_27 ?_
          refine g_aload_n (pn := 31) K rfl 0 rfl dX3_readE_30 ?_
          refine g_getr (pn := 34) (j := 19) K rfl fl_X3_12 lx_18 rfl dX3_readE_31 ?_
          refine g_bipush (pn := 36) (v := (-10)) K rfl bp_m10 dX3_readE_34 ?_
          obtain ⟨M15, hc14, h⟩ := ob_e h
          refine g_callV0 (pn := 39) (As := [.int (-10)]) (rest := []) (a := 19) K rfl (d' := 0) (by omega) mv_X3_80 (recvO K lx_19 rfl) (w_f_Text_add (Or.inl rfl) hc14) rfl rfl (Nat.le_of_ble_eq_true rfl) dX3_readE_36 ?_
          obtain ⟨v16, ev16, h⟩ := bnd_e h
          refine g_iinc (pn := 42) (v := v16) (lv' := [(1, .int v16), (0, .ref (X.2.2.2.1 18))]) K rfl 1 rfl ii_1 ev16 dX3_readE_39 (Nat.le_of_ble_eq_true rfl) rfl ?_
          refine g_goto (tgt := 6) K (by decide) dX3_readE_42 ?_
          refine g_sub [1, 0] rfl ?_
          exact ih7 _ _ h
  refine g_sub [1, 0] rfl ?_
  exact LP6 FU _ _ h
set_option maxHeartbeats 4000000 in
set_option maxRecDepth 20000 in
theorem w_f_Reader_readMinus {X : XT} {M : Mem} {one : Mem → Option Mem} {M' : Mem}  {D : Nat} (hD : 4 ≤ D) (hone : ∀ M M' : Mem, one M = some M' → CT layX X D yX3_readOne cX3_readOne 2 none [.ref (X.2.2.2.1 18)] M M' none) (h : f_Reader_readMinus one M = some M') : CT layX X (D + 1) yX3_readMinus cX3_readMinus 1 none [.ref (X.2.2.2.1 18)] M M' none := by
  refine CT.of rfl (Nat.le_of_ble_eq_true rfl) (lv := [(0, .ref (X.2.2.2.1 18))]) rfl (fun Γ K => ?_)
  have K : Kx layX X Γ RX3 cX3_readMinus 1 (D + 1) none := K
  unfold f_Reader_readMinus at h
  refine g_aload_n (pn := 1) K rfl 0 rfl dX3_readMinus_0 ?_
  obtain ⟨M2, v3, hc1, h⟩ := ob2_e h
  refine g_callV1 (pn := 4) (As := []) (rest := []) (a := 18) K rfl (d' := 1) (by omega) mv_X3_89 (recvO K lx_18 rfl) (w_f_Reader_opens hc1) rfl rfl (Nat.le_of_ble_eq_true rfl) dX3_readMinus_1 ?_
  refine g_ifB_eq (tgt := 30) (pn := 7) K rfl (by decide) dX3_readMinus_4 h (fun h => ?_) (fun h => ?_)
  · exact g_vret K dX3_readMinus_30 (oi h)
  · refine g_aload_n (pn := 8) K rfl 0 rfl dX3_readMinus_7 ?_
    obtain ⟨M5, hc4, h⟩ := ob_e h
    refine g_callV0 (pn := 11) (As := []) (rest := []) (a := 18) K rfl (d' := D) (by omega) mv_X3_99 (recvO K lx_18 rfl) (hone _ _ hc4) rfl rfl (Nat.le_of_ble_eq_true rfl) dX3_readMinus_8 ?_
    refine g_aload_n (pn := 12) K rfl 0 rfl dX3_readMinus_11 ?_
    refine g_dup (pn := 13) K rfl rfl dX3_readMinus_12 ?_
    refine g_geti (pn := 16) K rfl fl_X3_22 lx_18 rfl dX3_readMinus_13 ?_
    refine g_iconst (pn := 17) (v := 1) K rfl ic_1 dX3_readMinus_16 ?_
    refine g_isub (pn := 18) K rfl dX3_readMinus_17 ?_
    refine g_puti (pn := 21) K rfl fp_X3_22 lx_18 rfl dX3_readMinus_18 h (fun M6 h => ?_)
    refine g_aload_n (pn := 22) K rfl 0 rfl dX3_readMinus_21 ?_
    refine g_getr (pn := 25) (j := 19) K rfl fl_X3_12 lx_18 rfl dX3_readMinus_22 ?_
    refine g_bipush (pn := 27) (v := (-16)) K rfl bp_m16 dX3_readMinus_25 ?_
    obtain ⟨M8, hc7, h⟩ := ob_e h
    refine g_callV0 (pn := 30) (As := [.int (-16)]) (rest := []) (a := 19) K rfl (d' := 0) (by omega) mv_X3_80 (recvO K lx_19 rfl) (w_f_Text_add (Or.inl rfl) hc7) rfl rfl (Nat.le_of_ble_eq_true rfl) dX3_readMinus_27 ?_
    exact g_vret K dX3_readMinus_30 (oi h)
set_option maxHeartbeats 4000000 in
set_option maxRecDepth 20000 in
theorem w_f_Reader_readBracket {X : XT} {M : Mem} {one : Mem → Option Mem} {M' : Mem}  {D : Nat} (hD : 4 ≤ D) (hone : ∀ M M' : Mem, one M = some M' → CT layX X D yX3_readOne cX3_readOne 2 none [.ref (X.2.2.2.1 18)] M M' none) (h : f_Reader_readBracket one M = some M') : CT layX X (D + 17) yX3_readBracket cX3_readBracket 1 none [.ref (X.2.2.2.1 18)] M M' none := by
  refine CT.of rfl (Nat.le_of_ble_eq_true rfl) (lv := [(0, .ref (X.2.2.2.1 18))]) rfl (fun Γ K => ?_)
  have K : Kx layX X Γ RX3 cX3_readBracket 1 (D + 17) none := K
  unfold f_Reader_readBracket at h
  refine g_aload_n (pn := 1) K rfl 0 rfl dX3_readBracket_0 ?_
  obtain ⟨M2, v3, hc1, h⟩ := ob2_e h
  refine g_callV1 (pn := 4) (As := []) (rest := []) (a := 18) K rfl (d' := 1) (by omega) mv_X3_89 (recvO K lx_18 rfl) (w_f_Reader_opens hc1) rfl rfl (Nat.le_of_ble_eq_true rfl) dX3_readBracket_1 ?_
  refine g_ifB_eq (tgt := 27) (pn := 7) K rfl (by decide) dX3_readBracket_4 h (fun h => ?_) (fun h => ?_)
  · exact g_vret K dX3_readBracket_27 (oi h)
  · refine g_aload_n (pn := 8) K rfl 0 rfl dX3_readBracket_7 ?_
    obtain ⟨M5, hc4, h⟩ := ob_e h
    refine g_callV0 (pn := 11) (As := []) (rest := []) (a := 18) K rfl (d' := (D + 16)) (by omega) mv_X3_44 (recvO K lx_18 rfl) (w_f_Reader_readE hD hone hc4) rfl rfl (Nat.le_of_ble_eq_true rfl) dX3_readBracket_8 ?_
    refine g_aload_n (pn := 12) K rfl 0 rfl dX3_readBracket_11 ?_
    refine g_bipush (pn := 14) (v := 41) K rfl bp_41 dX3_readBracket_12 ?_
    obtain ⟨M7, hc6, h⟩ := ob_e h
    refine g_callV0 (pn := 17) (As := [.int 41]) (rest := []) (a := 18) K rfl (d' := 2) (by omega) mv_X3_40 (recvO K lx_18 rfl) (w_f_Reader_expect hc6) rfl rfl (Nat.le_of_ble_eq_true rfl) dX3_readBracket_14 ?_
    refine g_aload_n (pn := 18) K rfl 0 rfl dX3_readBracket_17 ?_
    refine g_dup (pn := 19) K rfl rfl dX3_readBracket_18 ?_
    refine g_geti (pn := 22) K rfl fl_X3_22 lx_18 rfl dX3_readBracket_19 ?_
    refine g_iconst (pn := 23) (v := 1) K rfl ic_1 dX3_readBracket_22 ?_
    refine g_isub (pn := 24) K rfl dX3_readBracket_23 ?_
    refine g_puti (pn := 27) K rfl fp_X3_22 lx_18 rfl dX3_readBracket_24 h (fun M8 h => ?_)
    exact g_vret K dX3_readBracket_27 (oi h)
set_option maxHeartbeats 4000000 in
set_option maxRecDepth 20000 in
theorem w_f_Reader_readOneB {X : XT} {M : Mem} {one : Mem → Option Mem} {M' : Mem}  {D : Nat} (hD : 4 ≤ D) (hone : ∀ M M' : Mem, one M = some M' → CT layX X D yX3_readOne cX3_readOne 2 none [.ref (X.2.2.2.1 18)] M M' none) (h : f_Reader_readOneB one M = some M') : CT layX X (D + 18) yX3_readOne cX3_readOne 2 none [.ref (X.2.2.2.1 18)] M M' none := by
  refine CT.of rfl (Nat.le_of_ble_eq_true rfl) (lv := [(0, .ref (X.2.2.2.1 18))]) rfl (fun Γ K => ?_)
  have K : Kx layX X Γ RX3 cX3_readOne 2 (D + 18) none := K
  unfold f_Reader_readOneB at h
  refine g_aload_n (pn := 1) K rfl 0 rfl dX3_readOne_0 ?_
  obtain ⟨v2, hc1, h⟩ := ob_e h
  refine g_callV1 (pn := 4) (As := []) (rest := []) (a := 18) K rfl (d' := 0) (by omega) mv_X3_50 (recvO K lx_18 rfl) (w_f_Reader_token hc1) rfl rfl (Nat.le_of_ble_eq_true rfl) dX3_readOne_1 ?_
  refine g_istore_n (pn := 5) (lv' := [(1, .int v2), (0, .ref (X.2.2.2.1 18))]) K rfl dX3_readOne_4 rfl (Nat.le_of_ble_eq_true rfl) rfl ?_
  refine g_iload_n (pn := 6) K rfl 0 rfl dX3_readOne_5 ?_
  refine g_bipush (pn := 8) (v := 13) K rfl bp_13 dX3_readOne_6 ?_
  refine g_icmp_ne (tgt := 29) (pn := 11) K rfl (by decide) dX3_readOne_8 h (fun h => ?_) (fun h => ?_)
  · refine g_iload_n (pn := 30) K rfl 0 rfl dX3_readOne_29 ?_
    refine g_iconst (pn := 31) (v := 1) K rfl ic_1 dX3_readOne_30 ?_
    refine jp_e1 h (fun M3 => G layX X Γ 2 (QM layX X Γ none M') 56 [(1, .int v2), (0, .ref (X.2.2.2.1 18))] [] M3) (fun M3 h => ?_) (fun j4 hj4 h => ?_)
    · refine g_iload_n (pn := 57) K rfl 0 rfl dX3_readOne_56 ?_
      refine g_bipush (pn := 59) (v := 45) K rfl bp_45 dX3_readOne_57 ?_
      refine g_icmp_ne (tgt := 69) (pn := 62) K rfl (by decide) dX3_readOne_59 h (fun h => ?_) (fun h => ?_)
      · refine g_iload_n (pn := 70) K rfl 0 rfl dX3_readOne_69 ?_
        refine g_bipush (pn := 72) (v := 40) K rfl bp_40 dX3_readOne_70 ?_
        refine g_icmp_ne (tgt := 82) (pn := 75) K rfl (by decide) dX3_readOne_72 h (fun h => ?_) (fun h => ?_)
        · refine g_aload_n (pn := 83) K rfl 1 rfl dX3_readOne_82 ?_
          obtain ⟨M6, hc5, h⟩ := ob_e h
          refine g_callV0 (pn := 86) (As := []) (rest := []) (a := 18) K rfl (d' := 0) (by omega) mv_X3_74 (recvO K lx_18 rfl) (w_f_Reader_fail hc5) rfl rfl (Nat.le_of_ble_eq_true rfl) dX3_readOne_83 ?_
          exact g_vret K dX3_readOne_86 (oi h)
        · refine g_aload_n (pn := 76) K rfl 1 rfl dX3_readOne_75 ?_
          obtain ⟨M8, hc7, h⟩ := ob_e h
          refine g_callV0 (pn := 79) (As := []) (rest := []) (a := 18) K rfl (d' := (D + 17)) (by omega) mv_X3_108 (recvO K lx_18 rfl) (w_f_Reader_readBracket hD hone hc7) rfl rfl (Nat.le_of_ble_eq_true rfl) dX3_readOne_76 ?_
          refine g_goto (tgt := 86) K (by decide) dX3_readOne_79 ?_
          exact g_vret K dX3_readOne_86 (oi h)
      · refine g_aload_n (pn := 63) K rfl 1 rfl dX3_readOne_62 ?_
        obtain ⟨M10, hc9, h⟩ := ob_e h
        refine g_callV0 (pn := 66) (As := []) (rest := []) (a := 18) K rfl (d' := (D + 1)) (by omega) mv_X3_105 (recvO K lx_18 rfl) (w_f_Reader_readMinus hD hone hc9) rfl rfl (Nat.le_of_ble_eq_true rfl) dX3_readOne_63 ?_
        refine g_goto (tgt := 86) K (by decide) dX3_readOne_66 ?_
        exact g_vret K dX3_readOne_86 (oi h)
    refine g_icmp_lt (tgt := 56) (pn := 34) K rfl (by decide) dX3_readOne_31 h (fun h => ?_) (fun h => ?_)
    · exact hj4 _ h
    · refine g_iload_n (pn := 35) K rfl 0 rfl dX3_readOne_34 ?_
      refine g_bipush (pn := 37) (v := 6) K rfl bp_6 dX3_readOne_35 ?_
      refine g_icmp_gt (tgt := 56) (pn := 40) K rfl (by decide) dX3_readOne_37 h (fun h => ?_) (fun h => ?_)
      · exact hj4 _ h
      · refine g_aload_n (pn := 41) K rfl 1 rfl dX3_readOne_40 ?_
        refine g_getr (pn := 44) (j := 19) K rfl fl_X3_12 lx_18 rfl dX3_readOne_41 ?_
        refine g_iload_n (pn := 45) K rfl 0 rfl dX3_readOne_44 ?_
        refine g_ineg (pn := 46) K rfl dX3_readOne_45 ?_
        obtain ⟨M12, hc11, h⟩ := ob_e h
        refine g_callV0 (pn := 49) (As := [.int (-v2)]) (rest := []) (a := 19) K rfl (d' := 0) (by omega) mv_X3_80 (recvO K lx_19 rfl) (w_f_Text_add (Or.inl rfl) hc11) rfl rfl (Nat.le_of_ble_eq_true rfl) dX3_readOne_46 ?_
        refine g_aload_n (pn := 50) K rfl 1 rfl dX3_readOne_49 ?_
        obtain ⟨M14, hc13, h⟩ := ob_e h
        refine g_callV0 (pn := 53) (As := []) (rest := []) (a := 18) K rfl (d' := 0) (by omega) mv_X3_71 (recvO K lx_18 rfl) (w_f_Reader_next hc13) rfl rfl (Nat.le_of_ble_eq_true rfl) dX3_readOne_50 ?_
        refine g_goto (tgt := 86) K (by decide) dX3_readOne_53 ?_
        exact g_vret K dX3_readOne_86 (oi h)
  · refine g_aload_n (pn := 12) K rfl 1 rfl dX3_readOne_11 ?_
    refine g_getr (pn := 15) (j := 19) K rfl fl_X3_12 lx_18 rfl dX3_readOne_12 ?_
    refine g_aload_n (pn := 16) K rfl 1 rfl dX3_readOne_15 ?_
    obtain ⟨v16, hc15, h⟩ := ob_e h
    refine g_callV1 (pn := 19) (As := []) (rest := [.ref (X.2.2.2.1 19)]) (a := 18) K rfl (d' := 0) (by omega) mv_X3_102 (recvO K lx_18 rfl) (w_f_Reader_number hc15) rfl rfl (Nat.le_of_ble_eq_true rfl) dX3_readOne_16 ?_
    obtain ⟨M18, hc17, h⟩ := ob_e h
    refine g_callV0 (pn := 22) (As := [.int v16]) (rest := []) (a := 19) K rfl (d' := 0) (by omega) mv_X3_80 (recvO K lx_19 rfl) (w_f_Text_add (Or.inl rfl) hc17) rfl rfl (Nat.le_of_ble_eq_true rfl) dX3_readOne_19 ?_
    refine g_aload_n (pn := 23) K rfl 1 rfl dX3_readOne_22 ?_
    obtain ⟨M20, hc19, h⟩ := ob_e h
    refine g_callV0 (pn := 26) (As := []) (rest := []) (a := 18) K rfl (d' := 0) (by omega) mv_X3_71 (recvO K lx_18 rfl) (w_f_Reader_next hc19) rfl rfl (Nat.le_of_ble_eq_true rfl) dX3_readOne_23 ?_
    refine g_goto (tgt := 86) K (by decide) dX3_readOne_26 ?_
    exact g_vret K dX3_readOne_86 (oi h)
theorem w_f_Reader_readOne {X : XT} (n : Nat) : ∀ {M M' : Mem}, f_Reader_readOne n M = some M' → CT layX X (4 + 18 * n) yX3_readOne cX3_readOne 2 none [.ref (X.2.2.2.1 18)] M M' none := by
  induction n with
  | zero =>
    intro M M' h
    rw [f_Reader_readOne] at h
    cases h
  | succ n ih =>
    intro M M' h
    rw [f_Reader_readOne] at h
    have e : 4 + 18 * (n + 1) = 4 + 18 * n + 18 := by omega
    rw [e]
    exact w_f_Reader_readOneB (D := 4 + 18 * n) (by omega) (fun M M' h => ih h) h
set_option maxHeartbeats 4000000 in
set_option maxRecDepth 20000 in
theorem w_f_Reader_read {X : XT} {M : Mem}  {M' : Mem} {r : Int32}   (h : f_Reader_read M = some (M', r)) : CT layX X 165 yX3_read cX3_read 2 (some .int) [.ref (X.2.2.2.1 18)] M M' (some (.int r)) := by
  refine CT.of rfl (Nat.le_of_ble_eq_true rfl) (lv := [(0, .ref (X.2.2.2.1 18))]) rfl (fun Γ K => ?_)
  have K : Kx layX X Γ RX3 cX3_read 2 165 (some .int) := K
  unfold f_Reader_read at h
  refine g_aload_n (pn := 1) K rfl 0 rfl dX3_read_0 ?_
  refine g_iconst (pn := 2) (v := 0) K rfl ic_0 dX3_read_1 ?_
  refine g_puti (pn := 5) K rfl fp_X3_22 lx_18 rfl dX3_read_2 h (fun M1 h => ?_)
  refine g_aload_n (pn := 6) K rfl 0 rfl dX3_read_5 ?_
  refine g_iconst (pn := 7) (v := (-1)) K rfl ic_m1 dX3_read_6 ?_
  refine g_puti (pn := 10) K rfl fp_X3_26 lx_18 rfl dX3_read_7 h (fun M2 h => ?_)
  refine g_aload_n (pn := 11) K rfl 0 rfl dX3_read_10 ?_
  refine g_getr (pn := 14) (j := 19) K rfl fl_X3_12 lx_18 rfl dX3_read_11 ?_
  obtain ⟨M4, hc3, h⟩ := ob_e h
  refine g_callV0 (pn := 17) (As := []) (rest := []) (a := 19) K rfl (d' := 0) (Nat.le_of_ble_eq_true rfl) mv_X3_29 (recvO K lx_19 rfl) (w_f_Text_clear (Or.inl rfl) hc3) rfl rfl (Nat.le_of_ble_eq_true rfl) dX3_read_14 ?_
  refine g_aload_n (pn := 18) K rfl 0 rfl dX3_read_17 ?_
  refine g_iconst (pn := 19) (v := 0) K rfl ic_0 dX3_read_18 ?_
  refine g_puti (pn := 22) K rfl fp_X3_32 lx_18 rfl dX3_read_19 h (fun M5 h => ?_)
  refine g_aload_n (pn := 23) K rfl 0 rfl dX3_read_22 ?_
  refine g_getr (pn := 26) (j := 13) K rfl fl_X3_18 lx_18 rfl dX3_read_23 ?_
  obtain ⟨M7, hc6, h⟩ := ob_e h
  refine g_callV0 (pn := 29) (As := []) (rest := []) (a := 13) K rfl (d' := 6) (Nat.le_of_ble_eq_true rfl) mv_X3_35 (recvO K lx_13 rfl) (w_f_Tape_cut hc6) rfl rfl (Nat.le_of_ble_eq_true rfl) dX3_read_26 ?_
  refine g_iconst (pn := 30) (v := 0) K rfl ic_0 dX3_read_29 ?_
  refine g_istore_n (pn := 31) (lv' := [(1, .int 0), (0, .ref (X.2.2.2.1 18))]) K rfl dX3_read_30 rfl (Nat.le_of_ble_eq_true rfl) rfl ?_
  refine jp_e1 h (fun M8 => G layX X Γ 2 (QM layX X Γ (some (.int r)) M') 68 [(0, .ref (X.2.2.2.1 18))] [] M8) (fun M8 h => ?_) (fun j9 hj9 h => ?_)
  · refine g_aload_n (pn := 69) K rfl 0 rfl dX3_read_68 ?_
    refine g_bipush (pn := 71) (v := 14) K rfl bp_14 dX3_read_69 ?_
    obtain ⟨M11, hc10, h⟩ := ob_e h
    refine g_callV0 (pn := 74) (As := [.int 14]) (rest := []) (a := 18) K rfl (d' := 2) (Nat.le_of_ble_eq_true rfl) mv_X3_40 (recvO K lx_18 rfl) (w_f_Reader_expect hc10) rfl rfl (Nat.le_of_ble_eq_true rfl) dX3_read_71 ?_
    refine g_aload_n (pn := 75) K rfl 0 rfl dX3_read_74 ?_
    refine g_geti (pn := 78) K rfl fl_X3_26 lx_18 rfl dX3_read_75 ?_
    exact g_iret K dX3_read_78 (oi2 h).2 (oi2 h).1
  have LP31 : ∀ (fu14 : Nat) (v12 : Int32) (M13 : Mem), f_Reader_read_L31 j9 fu14 v12 M13 = some (M', r) → G layX X Γ 2 (QM layX X Γ (some (.int r)) M') 31 [(0, .ref (X.2.2.2.1 18)), (1, .int v12)] [] M13 := by
    intro fu14
    induction fu14 with
    | zero =>
      intro v12 M13 h
      rw [f_Reader_read_L31] at h
      cases h
    | succ fu14 ih14 =>
      intro v12 M13 h
      rw [f_Reader_read_L31] at h
      refine g_iload_n (pn := 32) K rfl 1 rfl dX3_read_31 ?_
      refine g_iconst (pn := 33) (v := 3) K rfl ic_3 dX3_read_32 ?_
      refine g_icmp_ge (tgt := 68) (pn := 36) K rfl (by decide) dX3_read_33 h (fun h => ?_) (fun h => ?_)
      · refine g_sub [0] rfl ?_
        exact hj9 _ h
      · refine g_aload_n (pn := 37) K rfl 0 rfl dX3_read_36 ?_
        refine g_bipush (pn := 39) (v := 7) K rfl bp_7 dX3_read_37 ?_
        refine g_iload_n (pn := 40) K rfl 1 rfl dX3_read_39 ?_
        refine g_iadd (pn := 41) K rfl dX3_read_40 ?_
        obtain ⟨M16, hc15, h⟩ := ob_e h
        refine g_callV0 (pn := 44) (As := [.int (7 + v12)]) (rest := []) (a := 18) K rfl (d' := 2) (Nat.le_of_ble_eq_true rfl) mv_X3_40 (recvO K lx_18 rfl) (w_f_Reader_expect hc15) rfl rfl (Nat.le_of_ble_eq_true rfl) dX3_read_41 ?_
        refine g_aload_n (pn := 45) K rfl 0 rfl dX3_read_44 ?_
        obtain ⟨M18, hc17, h⟩ := ob_e h
        refine g_callV0 (pn := 48) (As := []) (rest := []) (a := 18) K rfl (d' := 164) (Nat.le_of_ble_eq_true rfl) mv_X3_44 (recvO K lx_18 rfl) (w_f_Reader_readE (D := 148) (by decide) (fun M M' h => w_f_Reader_readOne 8 h) hc17) rfl rfl (Nat.le_of_ble_eq_true rfl) dX3_read_45 ?_
        refine g_aload_n (pn := 49) K rfl 0 rfl dX3_read_48 ?_
        refine g_bipush (pn := 51) (v := 59) K rfl bp_59 dX3_read_49 ?_
        obtain ⟨M20, hc19, h⟩ := ob_e h
        refine g_callV0 (pn := 54) (As := [.int 59]) (rest := []) (a := 18) K rfl (d' := 2) (Nat.le_of_ble_eq_true rfl) mv_X3_40 (recvO K lx_18 rfl) (w_f_Reader_expect hc19) rfl rfl (Nat.le_of_ble_eq_true rfl) dX3_read_51 ?_
        refine g_aload_n (pn := 55) K rfl 0 rfl dX3_read_54 ?_
        refine g_getr (pn := 58) (j := 19) K rfl fl_X3_12 lx_18 rfl dX3_read_55 ?_
        refine g_iload_n (pn := 59) K rfl 1 rfl dX3_read_58 ?_
        obtain ⟨M22, hc21, h⟩ := ob_e h
        refine g_callV0 (pn := 62) (As := [.int v12]) (rest := []) (a := 19) K rfl (d' := 0) (Nat.le_of_ble_eq_true rfl) mv_X3_47 (recvO K lx_19 rfl) (w_f_Text_endPart (Or.inl rfl) hc21) rfl rfl (Nat.le_of_ble_eq_true rfl) dX3_read_59 ?_
        obtain ⟨v23, ev23, h⟩ := bnd_e h
        refine g_iinc (pn := 65) (v := v23) (lv' := [(1, .int v23), (0, .ref (X.2.2.2.1 18))]) K rfl 1 rfl ii_1 ev23 dX3_read_62 (Nat.le_of_ble_eq_true rfl) rfl ?_
        refine g_goto (tgt := 31) K (by decide) dX3_read_65 ?_
        refine g_sub [1, 0] rfl ?_
        exact ih14 _ _ h
  refine g_sub [1, 0] rfl ?_
  exact LP31 FU _ _ h
end
