section
-- ===== PART A: goes FIRST, ahead of the names: the tables' words, and 'selects' of the private methods out of them =====
/-- a private method of a class that the tables say can be made, by its rows of tables_1 -/
def lw_okq (q : MethodName × Nat) : Prop := (q.1.cls ≠ "java/lang/invoke/MethodHandle" ∧ q.1.cls ≠ "java/lang/invoke/VarHandle") ∧ Cond.instantiable q.1.cls q.2 ∈ tables_1 ∧ Cond.privateMethod q.1 ∈ tables_1 ∧ Cond.instanceMethod q.1 ∈ tables_1
theorem lw_p0 : lw_okq (⟨"BeforeItGoes", "learn", "()I"⟩, 10) := ⟨⟨by decide +kernel, by decide +kernel⟩, List.mem_of_getElem? (i := 20) (by decide +kernel), List.mem_of_getElem? (i := 311) (by decide +kernel), List.mem_of_getElem? (i := 312) (by decide +kernel)⟩
theorem lw_p1 : lw_okq (⟨"BeforeItGoes$Tape", "endOf", "(I)I"⟩, 6) := ⟨⟨by decide +kernel, by decide +kernel⟩, List.mem_of_getElem? (i := 71) (by decide +kernel), List.mem_of_getElem? (i := 327) (by decide +kernel), List.mem_of_getElem? (i := 328) (by decide +kernel)⟩
theorem lw_p2 : lw_okq (⟨"BeforeItGoes$Tape", "tokenOf", "(II)I"⟩, 6) := ⟨⟨by decide +kernel, by decide +kernel⟩, List.mem_of_getElem? (i := 71) (by decide +kernel), List.mem_of_getElem? (i := 337) (by decide +kernel), List.mem_of_getElem? (i := 338) (by decide +kernel)⟩
theorem lw_p3 : lw_okq (⟨"BeforeItGoes$Tape", "spells", "(Ljava/lang/String;II)Z"⟩, 6) := ⟨⟨by decide +kernel, by decide +kernel⟩, List.mem_of_getElem? (i := 71) (by decide +kernel), List.mem_of_getElem? (i := 416) (by decide +kernel), List.mem_of_getElem? (i := 417) (by decide +kernel)⟩
theorem lw_p4 : lw_okq (⟨"BeforeItGoes$Tape", "numberOf", "(II)I"⟩, 6) := ⟨⟨by decide +kernel, by decide +kernel⟩, List.mem_of_getElem? (i := 71) (by decide +kernel), List.mem_of_getElem? (i := 422) (by decide +kernel), List.mem_of_getElem? (i := 423) (by decide +kernel)⟩
theorem lw_p5 : lw_okq (⟨"BeforeItGoes$Reader", "expect", "(I)V"⟩, 5) := ⟨⟨by decide +kernel, by decide +kernel⟩, List.mem_of_getElem? (i := 102) (by decide +kernel), List.mem_of_getElem? (i := 426) (by decide +kernel), List.mem_of_getElem? (i := 427) (by decide +kernel)⟩
theorem lw_p6 : lw_okq (⟨"BeforeItGoes$Reader", "is", "(I)Z"⟩, 5) := ⟨⟨by decide +kernel, by decide +kernel⟩, List.mem_of_getElem? (i := 102) (by decide +kernel), List.mem_of_getElem? (i := 430) (by decide +kernel), List.mem_of_getElem? (i := 431) (by decide +kernel)⟩
theorem lw_p7 : lw_okq (⟨"BeforeItGoes$Reader", "token", "()I"⟩, 5) := ⟨⟨by decide +kernel, by decide +kernel⟩, List.mem_of_getElem? (i := 102) (by decide +kernel), List.mem_of_getElem? (i := 434) (by decide +kernel), List.mem_of_getElem? (i := 435) (by decide +kernel)⟩
theorem lw_p8 : lw_okq (⟨"BeforeItGoes$Reader", "next", "()V"⟩, 5) := ⟨⟨by decide +kernel, by decide +kernel⟩, List.mem_of_getElem? (i := 102) (by decide +kernel), List.mem_of_getElem? (i := 438) (by decide +kernel), List.mem_of_getElem? (i := 439) (by decide +kernel)⟩
theorem lw_p9 : lw_okq (⟨"BeforeItGoes$Reader", "fail", "()V"⟩, 5) := ⟨⟨by decide +kernel, by decide +kernel⟩, List.mem_of_getElem? (i := 102) (by decide +kernel), List.mem_of_getElem? (i := 442) (by decide +kernel), List.mem_of_getElem? (i := 443) (by decide +kernel)⟩
theorem lw_p10 : lw_okq (⟨"BeforeItGoes$Reader", "readE", "()V"⟩, 5) := ⟨⟨by decide +kernel, by decide +kernel⟩, List.mem_of_getElem? (i := 102) (by decide +kernel), List.mem_of_getElem? (i := 446) (by decide +kernel), List.mem_of_getElem? (i := 447) (by decide +kernel)⟩
theorem lw_p11 : lw_okq (⟨"BeforeItGoes$Reader", "readAnd", "()V"⟩, 5) := ⟨⟨by decide +kernel, by decide +kernel⟩, List.mem_of_getElem? (i := 102) (by decide +kernel), List.mem_of_getElem? (i := 450) (by decide +kernel), List.mem_of_getElem? (i := 451) (by decide +kernel)⟩
theorem lw_p12 : lw_okq (⟨"BeforeItGoes$Reader", "readNot", "()V"⟩, 5) := ⟨⟨by decide +kernel, by decide +kernel⟩, List.mem_of_getElem? (i := 102) (by decide +kernel), List.mem_of_getElem? (i := 454) (by decide +kernel), List.mem_of_getElem? (i := 455) (by decide +kernel)⟩
theorem lw_p13 : lw_okq (⟨"BeforeItGoes$Reader", "readCompared", "()V"⟩, 5) := ⟨⟨by decide +kernel, by decide +kernel⟩, List.mem_of_getElem? (i := 102) (by decide +kernel), List.mem_of_getElem? (i := 458) (by decide +kernel), List.mem_of_getElem? (i := 459) (by decide +kernel)⟩
theorem lw_p14 : lw_okq (⟨"BeforeItGoes$Reader", "readSum", "()V"⟩, 5) := ⟨⟨by decide +kernel, by decide +kernel⟩, List.mem_of_getElem? (i := 102) (by decide +kernel), List.mem_of_getElem? (i := 462) (by decide +kernel), List.mem_of_getElem? (i := 463) (by decide +kernel)⟩
theorem lw_p15 : lw_okq (⟨"BeforeItGoes$Reader", "readTerm", "()V"⟩, 5) := ⟨⟨by decide +kernel, by decide +kernel⟩, List.mem_of_getElem? (i := 102) (by decide +kernel), List.mem_of_getElem? (i := 466) (by decide +kernel), List.mem_of_getElem? (i := 467) (by decide +kernel)⟩
def lw_privs_1 : List (MethodName × Nat) := [(⟨"BeforeItGoes", "learn", "()I"⟩, 10), (⟨"BeforeItGoes$Tape", "endOf", "(I)I"⟩, 6), (⟨"BeforeItGoes$Tape", "tokenOf", "(II)I"⟩, 6), (⟨"BeforeItGoes$Tape", "spells", "(Ljava/lang/String;II)Z"⟩, 6), (⟨"BeforeItGoes$Tape", "numberOf", "(II)I"⟩, 6), (⟨"BeforeItGoes$Reader", "expect", "(I)V"⟩, 5), (⟨"BeforeItGoes$Reader", "is", "(I)Z"⟩, 5), (⟨"BeforeItGoes$Reader", "token", "()I"⟩, 5), (⟨"BeforeItGoes$Reader", "next", "()V"⟩, 5), (⟨"BeforeItGoes$Reader", "fail", "()V"⟩, 5), (⟨"BeforeItGoes$Reader", "readE", "()V"⟩, 5), (⟨"BeforeItGoes$Reader", "readAnd", "()V"⟩, 5), (⟨"BeforeItGoes$Reader", "readNot", "()V"⟩, 5), (⟨"BeforeItGoes$Reader", "readCompared", "()V"⟩, 5), (⟨"BeforeItGoes$Reader", "readSum", "()V"⟩, 5), (⟨"BeforeItGoes$Reader", "readTerm", "()V"⟩, 5)]
theorem lw_r1 : ∀ q ∈ lw_privs_1, lw_okq q := List.forall_mem_cons.mpr ⟨lw_p0, List.forall_mem_cons.mpr ⟨lw_p1, List.forall_mem_cons.mpr ⟨lw_p2, List.forall_mem_cons.mpr ⟨lw_p3, List.forall_mem_cons.mpr ⟨lw_p4, List.forall_mem_cons.mpr ⟨lw_p5, List.forall_mem_cons.mpr ⟨lw_p6, List.forall_mem_cons.mpr ⟨lw_p7, List.forall_mem_cons.mpr ⟨lw_p8, List.forall_mem_cons.mpr ⟨lw_p9, List.forall_mem_cons.mpr ⟨lw_p10, List.forall_mem_cons.mpr ⟨lw_p11, List.forall_mem_cons.mpr ⟨lw_p12, List.forall_mem_cons.mpr ⟨lw_p13, List.forall_mem_cons.mpr ⟨lw_p14, List.forall_mem_cons.mpr ⟨lw_p15, fun _ h => absurd h List.not_mem_nil⟩⟩⟩⟩⟩⟩⟩⟩⟩⟩⟩⟩⟩⟩⟩⟩
theorem lw_p16 : lw_okq (⟨"BeforeItGoes$Reader", "readOne", "()V"⟩, 5) := ⟨⟨by decide +kernel, by decide +kernel⟩, List.mem_of_getElem? (i := 102) (by decide +kernel), List.mem_of_getElem? (i := 470) (by decide +kernel), List.mem_of_getElem? (i := 471) (by decide +kernel)⟩
theorem lw_p17 : lw_okq (⟨"BeforeItGoes$Reader", "number", "()I"⟩, 5) := ⟨⟨by decide +kernel, by decide +kernel⟩, List.mem_of_getElem? (i := 102) (by decide +kernel), List.mem_of_getElem? (i := 474) (by decide +kernel), List.mem_of_getElem? (i := 475) (by decide +kernel)⟩
theorem lw_p18 : lw_okq (⟨"BeforeItGoes$Reader", "readMinus", "()V"⟩, 5) := ⟨⟨by decide +kernel, by decide +kernel⟩, List.mem_of_getElem? (i := 102) (by decide +kernel), List.mem_of_getElem? (i := 482) (by decide +kernel), List.mem_of_getElem? (i := 483) (by decide +kernel)⟩
theorem lw_p19 : lw_okq (⟨"BeforeItGoes$Reader", "opens", "()Z"⟩, 5) := ⟨⟨by decide +kernel, by decide +kernel⟩, List.mem_of_getElem? (i := 102) (by decide +kernel), List.mem_of_getElem? (i := 486) (by decide +kernel), List.mem_of_getElem? (i := 487) (by decide +kernel)⟩
theorem lw_p20 : lw_okq (⟨"BeforeItGoes$Reader", "readBracket", "()V"⟩, 5) := ⟨⟨by decide +kernel, by decide +kernel⟩, List.mem_of_getElem? (i := 102) (by decide +kernel), List.mem_of_getElem? (i := 490) (by decide +kernel), List.mem_of_getElem? (i := 491) (by decide +kernel)⟩
theorem lw_p21 : lw_okq (⟨"BeforeItGoes", "reckoned", "(II)I"⟩, 10) := ⟨⟨by decide +kernel, by decide +kernel⟩, List.mem_of_getElem? (i := 20) (by decide +kernel), List.mem_of_getElem? (i := 569) (by decide +kernel), List.mem_of_getElem? (i := 570) (by decide +kernel)⟩
theorem lw_p22 : lw_okq (⟨"BeforeItGoes", "startTrial", "()V"⟩, 10) := ⟨⟨by decide +kernel, by decide +kernel⟩, List.mem_of_getElem? (i := 20) (by decide +kernel), List.mem_of_getElem? (i := 573) (by decide +kernel), List.mem_of_getElem? (i := 574) (by decide +kernel)⟩
theorem lw_p23 : lw_okq (⟨"BeforeItGoes$Day", "tells", "(III)I"⟩, 17) := ⟨⟨by decide +kernel, by decide +kernel⟩, List.mem_of_getElem? (i := 143) (by decide +kernel), List.mem_of_getElem? (i := 589) (by decide +kernel), List.mem_of_getElem? (i := 590) (by decide +kernel)⟩
theorem lw_p24 : lw_okq (⟨"BeforeItGoes", "isOfDay", "(I)Z"⟩, 10) := ⟨⟨by decide +kernel, by decide +kernel⟩, List.mem_of_getElem? (i := 20) (by decide +kernel), List.mem_of_getElem? (i := 633) (by decide +kernel), List.mem_of_getElem? (i := 634) (by decide +kernel)⟩
theorem lw_p25 : lw_okq (⟨"BeforeItGoes$Day", "dawn", "()V"⟩, 17) := ⟨⟨by decide +kernel, by decide +kernel⟩, List.mem_of_getElem? (i := 143) (by decide +kernel), List.mem_of_getElem? (i := 642) (by decide +kernel), List.mem_of_getElem? (i := 643) (by decide +kernel)⟩
theorem lw_p26 : lw_okq (⟨"BeforeItGoes$Day", "firstRipe", "()I"⟩, 17) := ⟨⟨by decide +kernel, by decide +kernel⟩, List.mem_of_getElem? (i := 143) (by decide +kernel), List.mem_of_getElem? (i := 646) (by decide +kernel), List.mem_of_getElem? (i := 647) (by decide +kernel)⟩
theorem lw_p27 : lw_okq (⟨"BeforeItGoes$Day", "trowel", "(I)V"⟩, 17) := ⟨⟨by decide +kernel, by decide +kernel⟩, List.mem_of_getElem? (i := 143) (by decide +kernel), List.mem_of_getElem? (i := 650) (by decide +kernel), List.mem_of_getElem? (i := 651) (by decide +kernel)⟩
theorem lw_p28 : lw_okq (⟨"BeforeItGoes$Day", "mayBegin", "()Z"⟩, 17) := ⟨⟨by decide +kernel, by decide +kernel⟩, List.mem_of_getElem? (i := 143) (by decide +kernel), List.mem_of_getElem? (i := 654) (by decide +kernel), List.mem_of_getElem? (i := 655) (by decide +kernel)⟩
theorem lw_p29 : lw_okq (⟨"BeforeItGoes$Day", "nextBegins", "()I"⟩, 17) := ⟨⟨by decide +kernel, by decide +kernel⟩, List.mem_of_getElem? (i := 143) (by decide +kernel), List.mem_of_getElem? (i := 658) (by decide +kernel), List.mem_of_getElem? (i := 659) (by decide +kernel)⟩
theorem lw_p30 : lw_okq (⟨"BeforeItGoes$Day", "begin", "(I)V"⟩, 17) := ⟨⟨by decide +kernel, by decide +kernel⟩, List.mem_of_getElem? (i := 143) (by decide +kernel), List.mem_of_getElem? (i := 662) (by decide +kernel), List.mem_of_getElem? (i := 663) (by decide +kernel)⟩
theorem lw_p31 : lw_okq (⟨"BeforeItGoes$Day", "waitOn", "()V"⟩, 17) := ⟨⟨by decide +kernel, by decide +kernel⟩, List.mem_of_getElem? (i := 143) (by decide +kernel), List.mem_of_getElem? (i := 666) (by decide +kernel), List.mem_of_getElem? (i := 667) (by decide +kernel)⟩
def lw_privs_2 : List (MethodName × Nat) := [(⟨"BeforeItGoes$Reader", "readOne", "()V"⟩, 5), (⟨"BeforeItGoes$Reader", "number", "()I"⟩, 5), (⟨"BeforeItGoes$Reader", "readMinus", "()V"⟩, 5), (⟨"BeforeItGoes$Reader", "opens", "()Z"⟩, 5), (⟨"BeforeItGoes$Reader", "readBracket", "()V"⟩, 5), (⟨"BeforeItGoes", "reckoned", "(II)I"⟩, 10), (⟨"BeforeItGoes", "startTrial", "()V"⟩, 10), (⟨"BeforeItGoes$Day", "tells", "(III)I"⟩, 17), (⟨"BeforeItGoes", "isOfDay", "(I)Z"⟩, 10), (⟨"BeforeItGoes$Day", "dawn", "()V"⟩, 17), (⟨"BeforeItGoes$Day", "firstRipe", "()I"⟩, 17), (⟨"BeforeItGoes$Day", "trowel", "(I)V"⟩, 17), (⟨"BeforeItGoes$Day", "mayBegin", "()Z"⟩, 17), (⟨"BeforeItGoes$Day", "nextBegins", "()I"⟩, 17), (⟨"BeforeItGoes$Day", "begin", "(I)V"⟩, 17), (⟨"BeforeItGoes$Day", "waitOn", "()V"⟩, 17)]
theorem lw_r2 : ∀ q ∈ lw_privs_2, lw_okq q := List.forall_mem_cons.mpr ⟨lw_p16, List.forall_mem_cons.mpr ⟨lw_p17, List.forall_mem_cons.mpr ⟨lw_p18, List.forall_mem_cons.mpr ⟨lw_p19, List.forall_mem_cons.mpr ⟨lw_p20, List.forall_mem_cons.mpr ⟨lw_p21, List.forall_mem_cons.mpr ⟨lw_p22, List.forall_mem_cons.mpr ⟨lw_p23, List.forall_mem_cons.mpr ⟨lw_p24, List.forall_mem_cons.mpr ⟨lw_p25, List.forall_mem_cons.mpr ⟨lw_p26, List.forall_mem_cons.mpr ⟨lw_p27, List.forall_mem_cons.mpr ⟨lw_p28, List.forall_mem_cons.mpr ⟨lw_p29, List.forall_mem_cons.mpr ⟨lw_p30, List.forall_mem_cons.mpr ⟨lw_p31, fun _ h => absurd h List.not_mem_nil⟩⟩⟩⟩⟩⟩⟩⟩⟩⟩⟩⟩⟩⟩⟩⟩
theorem lw_p32 : lw_okq (⟨"BeforeItGoes", "ofDay", "(I)I"⟩, 10) := ⟨⟨by decide +kernel, by decide +kernel⟩, List.mem_of_getElem? (i := 20) (by decide +kernel), List.mem_of_getElem? (i := 670) (by decide +kernel), List.mem_of_getElem? (i := 671) (by decide +kernel)⟩
theorem lw_p33 : lw_okq (⟨"BeforeItGoes", "ofWallsDay", "(II)I"⟩, 10) := ⟨⟨by decide +kernel, by decide +kernel⟩, List.mem_of_getElem? (i := 20) (by decide +kernel), List.mem_of_getElem? (i := 682) (by decide +kernel), List.mem_of_getElem? (i := 683) (by decide +kernel)⟩
theorem lw_p34 : lw_okq (⟨"BeforeItGoes", "sheetAt", "(I)LBeforeItGoes$Sheet;"⟩, 10) := ⟨⟨by decide +kernel, by decide +kernel⟩, List.mem_of_getElem? (i := 20) (by decide +kernel), List.mem_of_getElem? (i := 690) (by decide +kernel), List.mem_of_getElem? (i := 691) (by decide +kernel)⟩
theorem lw_p35 : lw_okq (⟨"BeforeItGoes", "startOrder", "(LBeforeItGoes$Sheet;)Z"⟩, 10) := ⟨⟨by decide +kernel, by decide +kernel⟩, List.mem_of_getElem? (i := 20) (by decide +kernel), List.mem_of_getElem? (i := 694) (by decide +kernel), List.mem_of_getElem? (i := 695) (by decide +kernel)⟩
theorem lw_p36 : lw_okq (⟨"BeforeItGoes$Day", "swap", "(II)V"⟩, 17) := ⟨⟨by decide +kernel, by decide +kernel⟩, List.mem_of_getElem? (i := 143) (by decide +kernel), List.mem_of_getElem? (i := 722) (by decide +kernel), List.mem_of_getElem? (i := 723) (by decide +kernel)⟩
theorem lw_p37 : lw_okq (⟨"BeforeItGoes", "liveWith", "(II)V"⟩, 10) := ⟨⟨by decide +kernel, by decide +kernel⟩, List.mem_of_getElem? (i := 20) (by decide +kernel), List.mem_of_getElem? (i := 730) (by decide +kernel), List.mem_of_getElem? (i := 731) (by decide +kernel)⟩
theorem lw_p38 : lw_okq (⟨"BeforeItGoes", "notSo", "(LBeforeItGoes$Sheet;)I"⟩, 10) := ⟨⟨by decide +kernel, by decide +kernel⟩, List.mem_of_getElem? (i := 20) (by decide +kernel), List.mem_of_getElem? (i := 772) (by decide +kernel), List.mem_of_getElem? (i := 773) (by decide +kernel)⟩
theorem lw_p39 : lw_okq (⟨"BeforeItGoes", "dialsOf", "(LBeforeItGoes$Sheet;I)J"⟩, 10) := ⟨⟨by decide +kernel, by decide +kernel⟩, List.mem_of_getElem? (i := 20) (by decide +kernel), List.mem_of_getElem? (i := 780) (by decide +kernel), List.mem_of_getElem? (i := 781) (by decide +kernel)⟩
theorem lw_p40 : lw_okq (⟨"BeforeItGoes", "textsOf", "(LBeforeItGoes$Sheet;)I"⟩, 10) := ⟨⟨by decide +kernel, by decide +kernel⟩, List.mem_of_getElem? (i := 20) (by decide +kernel), List.mem_of_getElem? (i := 784) (by decide +kernel), List.mem_of_getElem? (i := 785) (by decide +kernel)⟩
theorem lw_p41 : lw_okq (⟨"BeforeItGoes", "kindsOf", "(LBeforeItGoes$Sheet;I)I"⟩, 10) := ⟨⟨by decide +kernel, by decide +kernel⟩, List.mem_of_getElem? (i := 20) (by decide +kernel), List.mem_of_getElem? (i := 788) (by decide +kernel), List.mem_of_getElem? (i := 789) (by decide +kernel)⟩
theorem lw_p42 : lw_okq (⟨"BeforeItGoesModel", "spell", "(IIIIIIIII)V"⟩, 53) := ⟨⟨by decide +kernel, by decide +kernel⟩, List.mem_of_getElem? (i := 872) (by decide +kernel), List.mem_of_getElem? (i := 878) (by decide +kernel), List.mem_of_getElem? (i := 879) (by decide +kernel)⟩
theorem lw_p43 : lw_okq (⟨"BeforeItGoesModel", "isWall", "(I)Z"⟩, 53) := ⟨⟨by decide +kernel, by decide +kernel⟩, List.mem_of_getElem? (i := 872) (by decide +kernel), List.mem_of_getElem? (i := 1050) (by decide +kernel), List.mem_of_getElem? (i := 1051) (by decide +kernel)⟩
theorem lw_p44 : lw_okq (⟨"BeforeItGoesModel", "ripensOf", "(I)I"⟩, 53) := ⟨⟨by decide +kernel, by decide +kernel⟩, List.mem_of_getElem? (i := 872) (by decide +kernel), List.mem_of_getElem? (i := 1066) (by decide +kernel), List.mem_of_getElem? (i := 1067) (by decide +kernel)⟩
theorem lw_p45 : lw_okq (⟨"BeforeItGoesModel", "says", "(IIIII)I"⟩, 53) := ⟨⟨by decide +kernel, by decide +kernel⟩, List.mem_of_getElem? (i := 872) (by decide +kernel), List.mem_of_getElem? (i := 1070) (by decide +kernel), List.mem_of_getElem? (i := 1071) (by decide +kernel)⟩
theorem lw_p46 : lw_okq (⟨"BeforeItGoesModel", "read", "(II)I"⟩, 53) := ⟨⟨by decide +kernel, by decide +kernel⟩, List.mem_of_getElem? (i := 872) (by decide +kernel), List.mem_of_getElem? (i := 1074) (by decide +kernel), List.mem_of_getElem? (i := 1075) (by decide +kernel)⟩
theorem lw_p47 : lw_okq (⟨"BeforeItGoesModel", "next", "()V"⟩, 53) := ⟨⟨by decide +kernel, by decide +kernel⟩, List.mem_of_getElem? (i := 872) (by decide +kernel), List.mem_of_getElem? (i := 1078) (by decide +kernel), List.mem_of_getElem? (i := 1079) (by decide +kernel)⟩
def lw_privs_3 : List (MethodName × Nat) := [(⟨"BeforeItGoes", "ofDay", "(I)I"⟩, 10), (⟨"BeforeItGoes", "ofWallsDay", "(II)I"⟩, 10), (⟨"BeforeItGoes", "sheetAt", "(I)LBeforeItGoes$Sheet;"⟩, 10), (⟨"BeforeItGoes", "startOrder", "(LBeforeItGoes$Sheet;)Z"⟩, 10), (⟨"BeforeItGoes$Day", "swap", "(II)V"⟩, 17), (⟨"BeforeItGoes", "liveWith", "(II)V"⟩, 10), (⟨"BeforeItGoes", "notSo", "(LBeforeItGoes$Sheet;)I"⟩, 10), (⟨"BeforeItGoes", "dialsOf", "(LBeforeItGoes$Sheet;I)J"⟩, 10), (⟨"BeforeItGoes", "textsOf", "(LBeforeItGoes$Sheet;)I"⟩, 10), (⟨"BeforeItGoes", "kindsOf", "(LBeforeItGoes$Sheet;I)I"⟩, 10), (⟨"BeforeItGoesModel", "spell", "(IIIIIIIII)V"⟩, 53), (⟨"BeforeItGoesModel", "isWall", "(I)Z"⟩, 53), (⟨"BeforeItGoesModel", "ripensOf", "(I)I"⟩, 53), (⟨"BeforeItGoesModel", "says", "(IIIII)I"⟩, 53), (⟨"BeforeItGoesModel", "read", "(II)I"⟩, 53), (⟨"BeforeItGoesModel", "next", "()V"⟩, 53)]
theorem lw_r3 : ∀ q ∈ lw_privs_3, lw_okq q := List.forall_mem_cons.mpr ⟨lw_p32, List.forall_mem_cons.mpr ⟨lw_p33, List.forall_mem_cons.mpr ⟨lw_p34, List.forall_mem_cons.mpr ⟨lw_p35, List.forall_mem_cons.mpr ⟨lw_p36, List.forall_mem_cons.mpr ⟨lw_p37, List.forall_mem_cons.mpr ⟨lw_p38, List.forall_mem_cons.mpr ⟨lw_p39, List.forall_mem_cons.mpr ⟨lw_p40, List.forall_mem_cons.mpr ⟨lw_p41, List.forall_mem_cons.mpr ⟨lw_p42, List.forall_mem_cons.mpr ⟨lw_p43, List.forall_mem_cons.mpr ⟨lw_p44, List.forall_mem_cons.mpr ⟨lw_p45, List.forall_mem_cons.mpr ⟨lw_p46, List.forall_mem_cons.mpr ⟨lw_p47, fun _ h => absurd h List.not_mem_nil⟩⟩⟩⟩⟩⟩⟩⟩⟩⟩⟩⟩⟩⟩⟩⟩
theorem lw_p48 : lw_okq (⟨"BeforeItGoesModel", "byteAt", "(I)I"⟩, 53) := ⟨⟨by decide +kernel, by decide +kernel⟩, List.mem_of_getElem? (i := 872) (by decide +kernel), List.mem_of_getElem? (i := 1082) (by decide +kernel), List.mem_of_getElem? (i := 1083) (by decide +kernel)⟩
theorem lw_p49 : lw_okq (⟨"BeforeItGoesModel", "isWord", "(IIIIIIII)Z"⟩, 53) := ⟨⟨by decide +kernel, by decide +kernel⟩, List.mem_of_getElem? (i := 872) (by decide +kernel), List.mem_of_getElem? (i := 1091) (by decide +kernel), List.mem_of_getElem? (i := 1092) (by decide +kernel)⟩
theorem lw_p50 : lw_okq (⟨"BeforeItGoesModel", "isLetter", "(II)Z"⟩, 53) := ⟨⟨by decide +kernel, by decide +kernel⟩, List.mem_of_getElem? (i := 872) (by decide +kernel), List.mem_of_getElem? (i := 1095) (by decide +kernel), List.mem_of_getElem? (i := 1096) (by decide +kernel)⟩
theorem lw_p51 : lw_okq (⟨"BeforeItGoesModel", "part", "(Z)I"⟩, 53) := ⟨⟨by decide +kernel, by decide +kernel⟩, List.mem_of_getElem? (i := 872) (by decide +kernel), List.mem_of_getElem? (i := 1099) (by decide +kernel), List.mem_of_getElem? (i := 1100) (by decide +kernel)⟩
theorem lw_p52 : lw_okq (⟨"BeforeItGoesModel", "fail", "()V"⟩, 53) := ⟨⟨by decide +kernel, by decide +kernel⟩, List.mem_of_getElem? (i := 872) (by decide +kernel), List.mem_of_getElem? (i := 1103) (by decide +kernel), List.mem_of_getElem? (i := 1104) (by decide +kernel)⟩
theorem lw_p53 : lw_okq (⟨"BeforeItGoesModel", "either", "()I"⟩, 53) := ⟨⟨by decide +kernel, by decide +kernel⟩, List.mem_of_getElem? (i := 872) (by decide +kernel), List.mem_of_getElem? (i := 1107) (by decide +kernel), List.mem_of_getElem? (i := 1108) (by decide +kernel)⟩
theorem lw_p54 : lw_okq (⟨"BeforeItGoesModel", "both", "()I"⟩, 53) := ⟨⟨by decide +kernel, by decide +kernel⟩, List.mem_of_getElem? (i := 872) (by decide +kernel), List.mem_of_getElem? (i := 1111) (by decide +kernel), List.mem_of_getElem? (i := 1112) (by decide +kernel)⟩
theorem lw_p55 : lw_okq (⟨"BeforeItGoesModel", "not", "()I"⟩, 53) := ⟨⟨by decide +kernel, by decide +kernel⟩, List.mem_of_getElem? (i := 872) (by decide +kernel), List.mem_of_getElem? (i := 1115) (by decide +kernel), List.mem_of_getElem? (i := 1116) (by decide +kernel)⟩
theorem lw_p56 : lw_okq (⟨"BeforeItGoesModel", "opens", "()Z"⟩, 53) := ⟨⟨by decide +kernel, by decide +kernel⟩, List.mem_of_getElem? (i := 872) (by decide +kernel), List.mem_of_getElem? (i := 1119) (by decide +kernel), List.mem_of_getElem? (i := 1120) (by decide +kernel)⟩
theorem lw_p57 : lw_okq (⟨"BeforeItGoesModel", "added", "()I"⟩, 53) := ⟨⟨by decide +kernel, by decide +kernel⟩, List.mem_of_getElem? (i := 872) (by decide +kernel), List.mem_of_getElem? (i := 1123) (by decide +kernel), List.mem_of_getElem? (i := 1124) (by decide +kernel)⟩
theorem lw_p58 : lw_okq (⟨"BeforeItGoesModel", "term", "()I"⟩, 53) := ⟨⟨by decide +kernel, by decide +kernel⟩, List.mem_of_getElem? (i := 872) (by decide +kernel), List.mem_of_getElem? (i := 1127) (by decide +kernel), List.mem_of_getElem? (i := 1128) (by decide +kernel)⟩
theorem lw_p59 : lw_okq (⟨"BeforeItGoesModel", "atom", "()I"⟩, 53) := ⟨⟨by decide +kernel, by decide +kernel⟩, List.mem_of_getElem? (i := 872) (by decide +kernel), List.mem_of_getElem? (i := 1131) (by decide +kernel), List.mem_of_getElem? (i := 1132) (by decide +kernel)⟩
theorem lw_p60 : lw_okq (⟨"BeforeItGoesModel", "isSign", "(I)Z"⟩, 53) := ⟨⟨by decide +kernel, by decide +kernel⟩, List.mem_of_getElem? (i := 872) (by decide +kernel), List.mem_of_getElem? (i := 1135) (by decide +kernel), List.mem_of_getElem? (i := 1136) (by decide +kernel)⟩
theorem lw_p61 : lw_okq (⟨"BeforeItGoesModel", "name", "()I"⟩, 53) := ⟨⟨by decide +kernel, by decide +kernel⟩, List.mem_of_getElem? (i := 872) (by decide +kernel), List.mem_of_getElem? (i := 1139) (by decide +kernel), List.mem_of_getElem? (i := 1140) (by decide +kernel)⟩
theorem lw_p62 : lw_okq (⟨"BeforeItGoesModel", "lastsOf", "(I)I"⟩, 53) := ⟨⟨by decide +kernel, by decide +kernel⟩, List.mem_of_getElem? (i := 872) (by decide +kernel), List.mem_of_getElem? (i := 1148) (by decide +kernel), List.mem_of_getElem? (i := 1149) (by decide +kernel)⟩
theorem lw_p63 : lw_okq (⟨"BeforeItGoesModel", "takesOf", "(I)I"⟩, 53) := ⟨⟨by decide +kernel, by decide +kernel⟩, List.mem_of_getElem? (i := 872) (by decide +kernel), List.mem_of_getElem? (i := 1152) (by decide +kernel), List.mem_of_getElem? (i := 1153) (by decide +kernel)⟩
def lw_privs_4 : List (MethodName × Nat) := [(⟨"BeforeItGoesModel", "byteAt", "(I)I"⟩, 53), (⟨"BeforeItGoesModel", "isWord", "(IIIIIIII)Z"⟩, 53), (⟨"BeforeItGoesModel", "isLetter", "(II)Z"⟩, 53), (⟨"BeforeItGoesModel", "part", "(Z)I"⟩, 53), (⟨"BeforeItGoesModel", "fail", "()V"⟩, 53), (⟨"BeforeItGoesModel", "either", "()I"⟩, 53), (⟨"BeforeItGoesModel", "both", "()I"⟩, 53), (⟨"BeforeItGoesModel", "not", "()I"⟩, 53), (⟨"BeforeItGoesModel", "opens", "()Z"⟩, 53), (⟨"BeforeItGoesModel", "added", "()I"⟩, 53), (⟨"BeforeItGoesModel", "term", "()I"⟩, 53), (⟨"BeforeItGoesModel", "atom", "()I"⟩, 53), (⟨"BeforeItGoesModel", "isSign", "(I)Z"⟩, 53), (⟨"BeforeItGoesModel", "name", "()I"⟩, 53), (⟨"BeforeItGoesModel", "lastsOf", "(I)I"⟩, 53), (⟨"BeforeItGoesModel", "takesOf", "(I)I"⟩, 53)]
theorem lw_r4 : ∀ q ∈ lw_privs_4, lw_okq q := List.forall_mem_cons.mpr ⟨lw_p48, List.forall_mem_cons.mpr ⟨lw_p49, List.forall_mem_cons.mpr ⟨lw_p50, List.forall_mem_cons.mpr ⟨lw_p51, List.forall_mem_cons.mpr ⟨lw_p52, List.forall_mem_cons.mpr ⟨lw_p53, List.forall_mem_cons.mpr ⟨lw_p54, List.forall_mem_cons.mpr ⟨lw_p55, List.forall_mem_cons.mpr ⟨lw_p56, List.forall_mem_cons.mpr ⟨lw_p57, List.forall_mem_cons.mpr ⟨lw_p58, List.forall_mem_cons.mpr ⟨lw_p59, List.forall_mem_cons.mpr ⟨lw_p60, List.forall_mem_cons.mpr ⟨lw_p61, List.forall_mem_cons.mpr ⟨lw_p62, List.forall_mem_cons.mpr ⟨lw_p63, fun _ h => absurd h List.not_mem_nil⟩⟩⟩⟩⟩⟩⟩⟩⟩⟩⟩⟩⟩⟩⟩⟩
theorem lw_p64 : lw_okq (⟨"BeforeItGoesModel", "isTells", "(I)Z"⟩, 53) := ⟨⟨by decide +kernel, by decide +kernel⟩, List.mem_of_getElem? (i := 872) (by decide +kernel), List.mem_of_getElem? (i := 1173) (by decide +kernel), List.mem_of_getElem? (i := 1174) (by decide +kernel)⟩
theorem lw_p65 : lw_okq (⟨"BeforeItGoesModel", "livesPlain", "(I)V"⟩, 53) := ⟨⟨by decide +kernel, by decide +kernel⟩, List.mem_of_getElem? (i := 872) (by decide +kernel), List.mem_of_getElem? (i := 1180) (by decide +kernel), List.mem_of_getElem? (i := 1181) (by decide +kernel)⟩
theorem lw_p66 : lw_okq (⟨"BeforeItGoesModel", "gathers", "()V"⟩, 53) := ⟨⟨by decide +kernel, by decide +kernel⟩, List.mem_of_getElem? (i := 872) (by decide +kernel), List.mem_of_getElem? (i := 1184) (by decide +kernel), List.mem_of_getElem? (i := 1185) (by decide +kernel)⟩
theorem lw_p67 : lw_okq (⟨"BeforeItGoesModel", "lives", "()V"⟩, 53) := ⟨⟨by decide +kernel, by decide +kernel⟩, List.mem_of_getElem? (i := 872) (by decide +kernel), List.mem_of_getElem? (i := 1188) (by decide +kernel), List.mem_of_getElem? (i := 1189) (by decide +kernel)⟩
theorem lw_p68 : lw_okq (⟨"BeforeItGoesModel", "toTrowel", "()I"⟩, 53) := ⟨⟨by decide +kernel, by decide +kernel⟩, List.mem_of_getElem? (i := 872) (by decide +kernel), List.mem_of_getElem? (i := 1192) (by decide +kernel), List.mem_of_getElem? (i := 1193) (by decide +kernel)⟩
theorem lw_p69 : lw_okq (⟨"BeforeItGoesModel", "trowels", "(I)V"⟩, 53) := ⟨⟨by decide +kernel, by decide +kernel⟩, List.mem_of_getElem? (i := 872) (by decide +kernel), List.mem_of_getElem? (i := 1196) (by decide +kernel), List.mem_of_getElem? (i := 1197) (by decide +kernel)⟩
theorem lw_p70 : lw_okq (⟨"BeforeItGoesModel", "begins", "(I)V"⟩, 53) := ⟨⟨by decide +kernel, by decide +kernel⟩, List.mem_of_getElem? (i := 872) (by decide +kernel), List.mem_of_getElem? (i := 1200) (by decide +kernel), List.mem_of_getElem? (i := 1201) (by decide +kernel)⟩
theorem lw_p71 : lw_okq (⟨"BeforeItGoesModel", "tells", "(I)I"⟩, 53) := ⟨⟨by decide +kernel, by decide +kernel⟩, List.mem_of_getElem? (i := 872) (by decide +kernel), List.mem_of_getElem? (i := 1204) (by decide +kernel), List.mem_of_getElem? (i := 1205) (by decide +kernel)⟩
theorem lw_p72 : lw_okq (⟨"BeforeItGoesModel", "setOf", "(I)I"⟩, 53) := ⟨⟨by decide +kernel, by decide +kernel⟩, List.mem_of_getElem? (i := 872) (by decide +kernel), List.mem_of_getElem? (i := 1208) (by decide +kernel), List.mem_of_getElem? (i := 1209) (by decide +kernel)⟩
theorem lw_p73 : lw_okq (⟨"BeforeItGoesModel", "laysOrder", "(I)Z"⟩, 53) := ⟨⟨by decide +kernel, by decide +kernel⟩, List.mem_of_getElem? (i := 872) (by decide +kernel), List.mem_of_getElem? (i := 1220) (by decide +kernel), List.mem_of_getElem? (i := 1221) (by decide +kernel)⟩
theorem lw_p74 : lw_okq (⟨"BeforeItGoesModel", "triesFrom", "(II)V"⟩, 53) := ⟨⟨by decide +kernel, by decide +kernel⟩, List.mem_of_getElem? (i := 872) (by decide +kernel), List.mem_of_getElem? (i := 1229) (by decide +kernel), List.mem_of_getElem? (i := 1230) (by decide +kernel)⟩
theorem lw_p75 : lw_okq (⟨"BeforeItGoesModel", "wet", "(I)V"⟩, 53) := ⟨⟨by decide +kernel, by decide +kernel⟩, List.mem_of_getElem? (i := 872) (by decide +kernel), List.mem_of_getElem? (i := 1242) (by decide +kernel), List.mem_of_getElem? (i := 1243) (by decide +kernel)⟩
theorem lw_p76 : lw_okq (⟨"BeforeItGoesModel", "livesBy", "(II)V"⟩, 53) := ⟨⟨by decide +kernel, by decide +kernel⟩, List.mem_of_getElem? (i := 872) (by decide +kernel), List.mem_of_getElem? (i := 1257) (by decide +kernel), List.mem_of_getElem? (i := 1258) (by decide +kernel)⟩
theorem lw_p77 : lw_okq (⟨"BeforeItGoesModel", "tellsSort", "(I)I"⟩, 53) := ⟨⟨by decide +kernel, by decide +kernel⟩, List.mem_of_getElem? (i := 872) (by decide +kernel), List.mem_of_getElem? (i := 1275) (by decide +kernel), List.mem_of_getElem? (i := 1276) (by decide +kernel)⟩
theorem lw_p78 : lw_okq (⟨"BeforeItGoesModel", "laysSort", "(II)V"⟩, 53) := ⟨⟨by decide +kernel, by decide +kernel⟩, List.mem_of_getElem? (i := 872) (by decide +kernel), List.mem_of_getElem? (i := 1279) (by decide +kernel), List.mem_of_getElem? (i := 1280) (by decide +kernel)⟩
theorem lw_p79 : lw_okq (⟨"BeforeItGoesModel", "isSo", "(I)Z"⟩, 53) := ⟨⟨by decide +kernel, by decide +kernel⟩, List.mem_of_getElem? (i := 872) (by decide +kernel), List.mem_of_getElem? (i := 1283) (by decide +kernel), List.mem_of_getElem? (i := 1284) (by decide +kernel)⟩
def lw_privs_5 : List (MethodName × Nat) := [(⟨"BeforeItGoesModel", "isTells", "(I)Z"⟩, 53), (⟨"BeforeItGoesModel", "livesPlain", "(I)V"⟩, 53), (⟨"BeforeItGoesModel", "gathers", "()V"⟩, 53), (⟨"BeforeItGoesModel", "lives", "()V"⟩, 53), (⟨"BeforeItGoesModel", "toTrowel", "()I"⟩, 53), (⟨"BeforeItGoesModel", "trowels", "(I)V"⟩, 53), (⟨"BeforeItGoesModel", "begins", "(I)V"⟩, 53), (⟨"BeforeItGoesModel", "tells", "(I)I"⟩, 53), (⟨"BeforeItGoesModel", "setOf", "(I)I"⟩, 53), (⟨"BeforeItGoesModel", "laysOrder", "(I)Z"⟩, 53), (⟨"BeforeItGoesModel", "triesFrom", "(II)V"⟩, 53), (⟨"BeforeItGoesModel", "wet", "(I)V"⟩, 53), (⟨"BeforeItGoesModel", "livesBy", "(II)V"⟩, 53), (⟨"BeforeItGoesModel", "tellsSort", "(I)I"⟩, 53), (⟨"BeforeItGoesModel", "laysSort", "(II)V"⟩, 53), (⟨"BeforeItGoesModel", "isSo", "(I)Z"⟩, 53)]
theorem lw_r5 : ∀ q ∈ lw_privs_5, lw_okq q := List.forall_mem_cons.mpr ⟨lw_p64, List.forall_mem_cons.mpr ⟨lw_p65, List.forall_mem_cons.mpr ⟨lw_p66, List.forall_mem_cons.mpr ⟨lw_p67, List.forall_mem_cons.mpr ⟨lw_p68, List.forall_mem_cons.mpr ⟨lw_p69, List.forall_mem_cons.mpr ⟨lw_p70, List.forall_mem_cons.mpr ⟨lw_p71, List.forall_mem_cons.mpr ⟨lw_p72, List.forall_mem_cons.mpr ⟨lw_p73, List.forall_mem_cons.mpr ⟨lw_p74, List.forall_mem_cons.mpr ⟨lw_p75, List.forall_mem_cons.mpr ⟨lw_p76, List.forall_mem_cons.mpr ⟨lw_p77, List.forall_mem_cons.mpr ⟨lw_p78, List.forall_mem_cons.mpr ⟨lw_p79, fun _ h => absurd h List.not_mem_nil⟩⟩⟩⟩⟩⟩⟩⟩⟩⟩⟩⟩⟩⟩⟩⟩
theorem lw_p80 : lw_okq (⟨"BeforeItGoesModel", "draws", "(I)V"⟩, 53) := ⟨⟨by decide +kernel, by decide +kernel⟩, List.mem_of_getElem? (i := 872) (by decide +kernel), List.mem_of_getElem? (i := 1305) (by decide +kernel), List.mem_of_getElem? (i := 1306) (by decide +kernel)⟩
def lw_privs_6 : List (MethodName × Nat) := [(⟨"BeforeItGoesModel", "draws", "(I)V"⟩, 53)]
theorem lw_r6 : ∀ q ∈ lw_privs_6, lw_okq q := List.forall_mem_cons.mpr ⟨lw_p80, fun _ h => absurd h List.not_mem_nil⟩
def lw_privs : List (MethodName × Nat) := lw_privs_1 ++ (lw_privs_2 ++ (lw_privs_3 ++ (lw_privs_4 ++ (lw_privs_5 ++ (lw_privs_6)))))
def lw_tbl : List Cond := k2_sels lw_privs ++ tables_1
theorem lw_privs_ok : ∀ q ∈ lw_privs, lw_okq q := by
  show ∀ q ∈ lw_privs_1 ++ (lw_privs_2 ++ (lw_privs_3 ++ (lw_privs_4 ++ (lw_privs_5 ++ (lw_privs_6))))), lw_okq q
  exact List.forall_mem_append.mpr ⟨lw_r1, List.forall_mem_append.mpr ⟨lw_r2, List.forall_mem_append.mpr ⟨lw_r3, List.forall_mem_append.mpr ⟨lw_r4, List.forall_mem_append.mpr ⟨lw_r5, lw_r6⟩⟩⟩⟩⟩
end
section
-- printed by TURN (NAMES): names, fields
def RX0 : String := "BeforeItGoes$Day"
def TX0 : u_T := fun k => match k with
  | 0 => ("BeforeItGoes$Day", "site", "LBeforeItGoes$Site;", true)
  | 1 => ("BeforeItGoes$Day", "texts", "[LBeforeItGoes$Text;", true)
  | 2 => ("BeforeItGoes$Day", "stack", "[I", true)
  | 3 => ("BeforeItGoes$Day", "names", "[I", true)
  | 4 => ("BeforeItGoes$Day", "row", "[I", true)
  | 5 => ("BeforeItGoes$Day", "ripens", "[I", true)
  | 6 => ("BeforeItGoes$Day", "lasts", "[I", true)
  | 7 => ("BeforeItGoes$Day", "takes", "[I", true)
  | 8 => ("BeforeItGoes$Day", "begun", "[I", true)
  | 9 => ("BeforeItGoes$Day", "ripe", "[I", true)
  | 10 => ("BeforeItGoes$Day", "trowelled", "[I", true)
  | 11 => ("BeforeItGoes$Day", "off", "[I", true)
  | 12 => ("BeforeItGoes$Day", "put", "I", false)
  | 13 => ("BeforeItGoes$Day", "ended", "I", false)
  | 14 => ("BeforeItGoes$Day", "minute", "I", false)
  | 15 => ("BeforeItGoes$Day", "waited", "I", false)
  | _ => ("BeforeItGoes$Day", "bad", "I", false)
def tyX0 : Nat → FieldType := fun k => match k with
  | 0 => .object "BeforeItGoes$Site"
  | 1 => .array (.object "BeforeItGoes$Text")
  | 2 => .array .int
  | 3 => .array .int
  | 4 => .array .int
  | 5 => .array .int
  | 6 => .array .int
  | 7 => .array .int
  | 8 => .array .int
  | 9 => .array .int
  | 10 => .array .int
  | 11 => .array .int
  | 12 => .int
  | 13 => .int
  | 14 => .int
  | 15 => .int
  | _ => .int
abbrev wsX00 : List Cond := u_ws RX0 TX0 17
theorem nmX0 : ∀ a, a < 17 → ∀ b, b < 17 → a ≠ b → (TX0 a).2.1 ≠ (TX0 b).2.1 := by decide +kernel
theorem tyX0_ok : ∀ k, k < 17 → parseFieldDescriptor (TX0 k).2.2.1 = some (tyX0 k) := by decide +kernel
abbrev cX0_init : ByteArray := prog_2_method_1_code
def yX0_init : MethodName := ⟨RX0, "<init>", "([LBeforeItGoes$Text;)V"⟩
abbrev cX0_reckon : ByteArray := prog_2_method_2_code
def yX0_reckon : MethodName := ⟨RX0, "reckon", "()V"⟩
abbrev cX0_tells : ByteArray := prog_2_method_3_code
def yX0_tells : MethodName := ⟨RX0, "tells", "(III)I"⟩
abbrev cX0_place : ByteArray := prog_2_method_4_code
def yX0_place : MethodName := ⟨RX0, "place", "(II)V"⟩
abbrev cX0_live : ByteArray := prog_2_method_5_code
def yX0_live : MethodName := ⟨RX0, "live", "()V"⟩
abbrev cX0_dawn : ByteArray := prog_2_method_6_code
def yX0_dawn : MethodName := ⟨RX0, "dawn", "()V"⟩
abbrev cX0_firstRipe : ByteArray := prog_2_method_7_code
def yX0_firstRipe : MethodName := ⟨RX0, "firstRipe", "()I"⟩
abbrev cX0_trowel : ByteArray := prog_2_method_8_code
def yX0_trowel : MethodName := ⟨RX0, "trowel", "(I)V"⟩
abbrev cX0_mayBegin : ByteArray := prog_2_method_9_code
def yX0_mayBegin : MethodName := ⟨RX0, "mayBegin", "()Z"⟩
abbrev cX0_nextBegins : ByteArray := prog_2_method_10_code
def yX0_nextBegins : MethodName := ⟨RX0, "nextBegins", "()I"⟩
abbrev cX0_begin : ByteArray := prog_2_method_11_code
def yX0_begin : MethodName := ⟨RX0, "begin", "(I)V"⟩
abbrev cX0_waitOn : ByteArray := prog_2_method_12_code
def yX0_waitOn : MethodName := ⟨RX0, "waitOn", "()V"⟩
abbrev cX0_late : ByteArray := prog_2_method_13_code
def yX0_late : MethodName := ⟨RX0, "late", "()I"⟩
abbrev cX0_early : ByteArray := prog_2_method_14_code
def yX0_early : MethodName := ⟨RX0, "early", "()I"⟩
abbrev cX0_unlike : ByteArray := prog_2_method_15_code
def yX0_unlike : MethodName := ⟨RX0, "unlike", "(LBeforeItGoes$Sheet;)I"⟩
abbrev cX0_rowAsDigits : ByteArray := prog_2_method_16_code
def yX0_rowAsDigits : MethodName := ⟨RX0, "rowAsDigits", "()I"⟩
abbrev cX0_nextRow : ByteArray := prog_2_method_17_code
def yX0_nextRow : MethodName := ⟨RX0, "nextRow", "()Z"⟩
abbrev cX0_swap : ByteArray := prog_2_method_18_code
def yX0_swap : MethodName := ⟨RX0, "swap", "(II)V"⟩
def RX1 : String := "BeforeItGoes$Kind"
def TX1 : u_T := fun k => match k with
  | _ => ("", "", "", false)
def tyX1 : Nat → FieldType := fun k => match k with
  | _ => .int
abbrev wsX10 : List Cond := u_ws RX1 TX1 0
theorem nmX1 : ∀ a, a < 0 → ∀ b, b < 0 → a ≠ b → (TX1 a).2.1 ≠ (TX1 b).2.1 := by decide +kernel
theorem tyX1_ok : ∀ k, k < 0 → parseFieldDescriptor (TX1 k).2.2.1 = some (tyX1 k) := by decide +kernel
abbrev cX1_ripens : ByteArray := prog_3_method_2_code
def yX1_ripens : MethodName := ⟨RX1, "ripens", "(IIZI)I"⟩
abbrev cX1_lasts : ByteArray := prog_3_method_3_code
def yX1_lasts : MethodName := ⟨RX1, "lasts", "(II)I"⟩
abbrev cX1_takes : ByteArray := prog_3_method_4_code
def yX1_takes : MethodName := ⟨RX1, "takes", "(III)I"⟩
abbrev cX1_isUnder : ByteArray := prog_3_method_5_code
def yX1_isUnder : MethodName := ⟨RX1, "isUnder", "(II)Z"⟩
def RX2 : String := "BeforeItGoes$Pick"
def TX2 : u_T := fun k => match k with
  | 0 => ("BeforeItGoes$Pick", "any", "Z", false)
  | 1 => ("BeforeItGoes$Pick", "which", "I", false)
  | 2 => ("BeforeItGoes$Pick", "bad", "I", false)
  | _ => ("BeforeItGoes$Pick", "done", "I", false)
def tyX2 : Nat → FieldType := fun k => match k with
  | 0 => .boolean
  | 1 => .int
  | 2 => .int
  | _ => .int
abbrev wsX20 : List Cond := u_ws RX2 TX2 4
theorem nmX2 : ∀ a, a < 4 → ∀ b, b < 4 → a ≠ b → (TX2 a).2.1 ≠ (TX2 b).2.1 := by decide +kernel
theorem tyX2_ok : ∀ k, k < 4 → parseFieldDescriptor (TX2 k).2.2.1 = some (tyX2 k) := by decide +kernel
abbrev cX2_init : ByteArray := prog_4_method_1_code
def yX2_init : MethodName := ⟨RX2, "<init>", "()V"⟩
abbrev cX2_clear : ByteArray := prog_4_method_2_code
def yX2_clear : MethodName := ⟨RX2, "clear", "()V"⟩
abbrev cX2_offer : ByteArray := prog_4_method_3_code
def yX2_offer : MethodName := ⟨RX2, "offer", "(III)V"⟩
def RX3 : String := "BeforeItGoes$Reader"
def TX3 : u_T := fun k => match k with
  | 0 => ("BeforeItGoes$Reader", "tape", "LBeforeItGoes$Tape;", true)
  | 1 => ("BeforeItGoes$Reader", "draft", "LBeforeItGoes$Text;", true)
  | 2 => ("BeforeItGoes$Reader", "at", "I", false)
  | 3 => ("BeforeItGoes$Reader", "open", "I", false)
  | _ => ("BeforeItGoes$Reader", "fault", "I", false)
def tyX3 : Nat → FieldType := fun k => match k with
  | 0 => .object "BeforeItGoes$Tape"
  | 1 => .object "BeforeItGoes$Text"
  | 2 => .int
  | 3 => .int
  | _ => .int
abbrev wsX30 : List Cond := u_ws RX3 TX3 5
theorem nmX3 : ∀ a, a < 5 → ∀ b, b < 5 → a ≠ b → (TX3 a).2.1 ≠ (TX3 b).2.1 := by decide +kernel
theorem tyX3_ok : ∀ k, k < 5 → parseFieldDescriptor (TX3 k).2.2.1 = some (tyX3 k) := by decide +kernel
abbrev cX3_init : ByteArray := prog_5_method_1_code
def yX3_init : MethodName := ⟨RX3, "<init>", "(LBeforeItGoes$Tape;)V"⟩
abbrev cX3_read : ByteArray := prog_5_method_2_code
def yX3_read : MethodName := ⟨RX3, "read", "()I"⟩
abbrev cX3_is : ByteArray := prog_5_method_3_code
def yX3_is : MethodName := ⟨RX3, "is", "(I)Z"⟩
abbrev cX3_token : ByteArray := prog_5_method_4_code
def yX3_token : MethodName := ⟨RX3, "token", "()I"⟩
abbrev cX3_next : ByteArray := prog_5_method_5_code
def yX3_next : MethodName := ⟨RX3, "next", "()V"⟩
abbrev cX3_fail : ByteArray := prog_5_method_6_code
def yX3_fail : MethodName := ⟨RX3, "fail", "()V"⟩
abbrev cX3_expect : ByteArray := prog_5_method_7_code
def yX3_expect : MethodName := ⟨RX3, "expect", "(I)V"⟩
abbrev cX3_opens : ByteArray := prog_5_method_8_code
def yX3_opens : MethodName := ⟨RX3, "opens", "()Z"⟩
abbrev cX3_readE : ByteArray := prog_5_method_9_code
def yX3_readE : MethodName := ⟨RX3, "readE", "()V"⟩
abbrev cX3_readAnd : ByteArray := prog_5_method_10_code
def yX3_readAnd : MethodName := ⟨RX3, "readAnd", "()V"⟩
abbrev cX3_readNot : ByteArray := prog_5_method_11_code
def yX3_readNot : MethodName := ⟨RX3, "readNot", "()V"⟩
abbrev cX3_readCompared : ByteArray := prog_5_method_12_code
def yX3_readCompared : MethodName := ⟨RX3, "readCompared", "()V"⟩
abbrev cX3_readSum : ByteArray := prog_5_method_13_code
def yX3_readSum : MethodName := ⟨RX3, "readSum", "()V"⟩
abbrev cX3_readTerm : ByteArray := prog_5_method_14_code
def yX3_readTerm : MethodName := ⟨RX3, "readTerm", "()V"⟩
abbrev cX3_readOne : ByteArray := prog_5_method_15_code
def yX3_readOne : MethodName := ⟨RX3, "readOne", "()V"⟩
abbrev cX3_number : ByteArray := prog_5_method_16_code
def yX3_number : MethodName := ⟨RX3, "number", "()I"⟩
abbrev cX3_readMinus : ByteArray := prog_5_method_17_code
def yX3_readMinus : MethodName := ⟨RX3, "readMinus", "()V"⟩
abbrev cX3_readBracket : ByteArray := prog_5_method_18_code
def yX3_readBracket : MethodName := ⟨RX3, "readBracket", "()V"⟩
def RX4 : String := "BeforeItGoes$Sheet"
def TX4 : u_T := fun k => match k with
  | 0 => ("BeforeItGoes$Sheet", "items", "[I", true)
  | 1 => ("BeforeItGoes$Sheet", "sort", "I", false)
  | _ => ("BeforeItGoes$Sheet", "size", "I", false)
def tyX4 : Nat → FieldType := fun k => match k with
  | 0 => .array .int
  | 1 => .int
  | _ => .int
abbrev wsX40 : List Cond := u_ws RX4 TX4 3
theorem nmX4 : ∀ a, a < 3 → ∀ b, b < 3 → a ≠ b → (TX4 a).2.1 ≠ (TX4 b).2.1 := by decide +kernel
theorem tyX4_ok : ∀ k, k < 3 → parseFieldDescriptor (TX4 k).2.2.1 = some (tyX4 k) := by decide +kernel
abbrev cX4_init : ByteArray := prog_6_method_1_code
def yX4_init : MethodName := ⟨RX4, "<init>", "()V"⟩
abbrev cX4_isMissing : ByteArray := prog_6_method_2_code
def yX4_isMissing : MethodName := ⟨RX4, "isMissing", "()Z"⟩
abbrev cX4_has : ByteArray := prog_6_method_3_code
def yX4_has : MethodName := ⟨RX4, "has", "(I)Z"⟩
abbrev cX4_hasRun : ByteArray := prog_6_method_4_code
def yX4_hasRun : MethodName := ⟨RX4, "hasRun", "(II)Z"⟩
abbrev cX4_become : ByteArray := prog_6_method_5_code
def yX4_become : MethodName := ⟨RX4, "become", "(II)V"⟩
abbrev cX4_put : ByteArray := prog_6_method_6_code
def yX4_put : MethodName := ⟨RX4, "put", "(II)V"⟩
def RX5 : String := "BeforeItGoes$Site"
def TX5 : u_T := fun k => match k with
  | 0 => ("BeforeItGoes$Site", "dials", "[I", true)
  | 1 => ("BeforeItGoes$Site", "kinds", "[I", true)
  | 2 => ("BeforeItGoes$Site", "numbers", "[I", true)
  | 3 => ("BeforeItGoes$Site", "yards", "[I", true)
  | 4 => ("BeforeItGoes$Site", "wets", "[I", true)
  | 5 => ("BeforeItGoes$Site", "size", "I", false)
  | _ => ("BeforeItGoes$Site", "rule", "I", false)
def tyX5 : Nat → FieldType := fun k => match k with
  | 0 => .array .int
  | 1 => .array .int
  | 2 => .array .int
  | 3 => .array .int
  | 4 => .array .int
  | 5 => .int
  | _ => .int
abbrev wsX50 : List Cond := u_ws RX5 TX5 7
theorem nmX5 : ∀ a, a < 7 → ∀ b, b < 7 → a ≠ b → (TX5 a).2.1 ≠ (TX5 b).2.1 := by decide +kernel
theorem tyX5_ok : ∀ k, k < 7 → parseFieldDescriptor (TX5 k).2.2.1 = some (tyX5 k) := by decide +kernel
abbrev cX5_init : ByteArray := prog_7_method_1_code
def yX5_init : MethodName := ⟨RX5, "<init>", "()V"⟩
abbrev cX5_has : ByteArray := prog_7_method_2_code
def yX5_has : MethodName := ⟨RX5, "has", "(I)Z"⟩
abbrev cX5_turn : ByteArray := prog_7_method_3_code
def yX5_turn : MethodName := ⟨RX5, "turn", "(II)V"⟩
abbrev cX5_rowOf : ByteArray := prog_7_method_4_code
def yX5_rowOf : MethodName := ⟨RX5, "rowOf", "(I)[I"⟩
abbrev cX5_add : ByteArray := prog_7_method_5_code
def yX5_add : MethodName := ⟨RX5, "add", "(III)I"⟩
abbrev cX5_wetJust : ByteArray := prog_7_method_6_code
def yX5_wetJust : MethodName := ⟨RX5, "wetJust", "(I)V"⟩
abbrev cX5_become : ByteArray := prog_7_method_7_code
def yX5_become : MethodName := ⟨RX5, "become", "(LBeforeItGoes$Site;)V"⟩
def RX6 : String := "BeforeItGoes$Tape"
def TX6 : u_T := fun k => match k with
  | 0 => ("BeforeItGoes$Tape", "bytes", "[I", true)
  | 1 => ("BeforeItGoes$Tape", "size", "I", false)
  | 2 => ("BeforeItGoes$Tape", "tokens", "[I", true)
  | 3 => ("BeforeItGoes$Tape", "starts", "[I", true)
  | 4 => ("BeforeItGoes$Tape", "numbers", "[I", true)
  | _ => ("BeforeItGoes$Tape", "last", "I", false)
def tyX6 : Nat → FieldType := fun k => match k with
  | 0 => .array .int
  | 1 => .int
  | 2 => .array .int
  | 3 => .array .int
  | 4 => .array .int
  | _ => .int
abbrev wsX60 : List Cond := u_ws RX6 TX6 6
theorem nmX6 : ∀ a, a < 6 → ∀ b, b < 6 → a ≠ b → (TX6 a).2.1 ≠ (TX6 b).2.1 := by decide +kernel
theorem tyX6_ok : ∀ k, k < 6 → parseFieldDescriptor (TX6 k).2.2.1 = some (tyX6 k) := by decide +kernel
abbrev cX6_init : ByteArray := prog_8_method_1_code
def yX6_init : MethodName := ⟨RX6, "<init>", "()V"⟩
abbrev cX6_add : ByteArray := prog_8_method_2_code
def yX6_add : MethodName := ⟨RX6, "add", "(I)I"⟩
abbrev cX6_clear : ByteArray := prog_8_method_3_code
def yX6_clear : MethodName := ⟨RX6, "clear", "()V"⟩
abbrev cX6_cut : ByteArray := prog_8_method_4_code
def yX6_cut : MethodName := ⟨RX6, "cut", "()V"⟩
abbrev cX6_endOf : ByteArray := prog_8_method_5_code
def yX6_endOf : MethodName := ⟨RX6, "endOf", "(I)I"⟩
abbrev cX6_tokenOf : ByteArray := prog_8_method_6_code
def yX6_tokenOf : MethodName := ⟨RX6, "tokenOf", "(II)I"⟩
abbrev cX6_numberOf : ByteArray := prog_8_method_7_code
def yX6_numberOf : MethodName := ⟨RX6, "numberOf", "(II)I"⟩
abbrev cX6_spells : ByteArray := prog_8_method_8_code
def yX6_spells : MethodName := ⟨RX6, "spells", "(Ljava/lang/String;II)Z"⟩
abbrev cX6_isLetter : ByteArray := prog_8_method_9_code
def yX6_isLetter : MethodName := ⟨RX6, "isLetter", "(I)Z"⟩
abbrev cX6_isDigit : ByteArray := prog_8_method_10_code
def yX6_isDigit : MethodName := ⟨RX6, "isDigit", "(I)Z"⟩
abbrev cX6_wordOf : ByteArray := prog_8_method_11_code
def yX6_wordOf : MethodName := ⟨RX6, "wordOf", "(I)Ljava/lang/String;"⟩
def RX7 : String := "BeforeItGoes$Text"
def TX7 : u_T := fun k => match k with
  | 0 => ("BeforeItGoes$Text", "codes", "[I", true)
  | 1 => ("BeforeItGoes$Text", "ends", "[I", true)
  | _ => ("BeforeItGoes$Text", "size", "I", false)
def tyX7 : Nat → FieldType := fun k => match k with
  | 0 => .array .int
  | 1 => .array .int
  | _ => .int
abbrev wsX70 : List Cond := u_ws RX7 TX7 3
theorem nmX7 : ∀ a, a < 3 → ∀ b, b < 3 → a ≠ b → (TX7 a).2.1 ≠ (TX7 b).2.1 := by decide +kernel
theorem tyX7_ok : ∀ k, k < 3 → parseFieldDescriptor (TX7 k).2.2.1 = some (tyX7 k) := by decide +kernel
abbrev cX7_init : ByteArray := prog_9_method_1_code
def yX7_init : MethodName := ⟨RX7, "<init>", "()V"⟩
abbrev cX7_clear : ByteArray := prog_9_method_2_code
def yX7_clear : MethodName := ⟨RX7, "clear", "()V"⟩
abbrev cX7_add : ByteArray := prog_9_method_3_code
def yX7_add : MethodName := ⟨RX7, "add", "(I)V"⟩
abbrev cX7_endPart : ByteArray := prog_9_method_4_code
def yX7_endPart : MethodName := ⟨RX7, "endPart", "(I)V"⟩
abbrev cX7_become : ByteArray := prog_9_method_5_code
def yX7_become : MethodName := ⟨RX7, "become", "(LBeforeItGoes$Text;)V"⟩
abbrev cX7_value : ByteArray := prog_9_method_6_code
def yX7_value : MethodName := ⟨RX7, "value", "(I[I[I)I"⟩
abbrev cX7_joined : ByteArray := prog_9_method_7_code
def yX7_joined : MethodName := ⟨RX7, "joined", "(III)I"⟩
def RX8 : String := "BeforeItGoes"
def TX8 : u_T := fun k => match k with
  | 0 => ("BeforeItGoes", "site", "LBeforeItGoes$Site;", true)
  | 1 => ("BeforeItGoes", "keptSite", "LBeforeItGoes$Site;", true)
  | 2 => ("BeforeItGoes", "hasImage", "Z", false)
  | 3 => ("BeforeItGoes", "tape", "LBeforeItGoes$Tape;", true)
  | 4 => ("BeforeItGoes", "reader", "LBeforeItGoes$Reader;", true)
  | 5 => ("BeforeItGoes", "texts", "[LBeforeItGoes$Text;", true)
  | 6 => ("BeforeItGoes", "textCount", "I", false)
  | 7 => ("BeforeItGoes", "trial", "LBeforeItGoes$Day;", true)
  | 8 => ("BeforeItGoes", "pick", "LBeforeItGoes$Pick;", true)
  | _ => ("BeforeItGoes", "sheets", "[LBeforeItGoes$Sheet;", true)
def tyX8 : Nat → FieldType := fun k => match k with
  | 0 => .object "BeforeItGoes$Site"
  | 1 => .object "BeforeItGoes$Site"
  | 2 => .boolean
  | 3 => .object "BeforeItGoes$Tape"
  | 4 => .object "BeforeItGoes$Reader"
  | 5 => .array (.object "BeforeItGoes$Text")
  | 6 => .int
  | 7 => .object "BeforeItGoes$Day"
  | 8 => .object "BeforeItGoes$Pick"
  | _ => .array (.object "BeforeItGoes$Sheet")
abbrev wsX80 : List Cond := u_ws RX8 TX8 10
theorem nmX8 : ∀ a, a < 10 → ∀ b, b < 10 → a ≠ b → (TX8 a).2.1 ≠ (TX8 b).2.1 := by decide +kernel
theorem tyX8_ok : ∀ k, k < 10 → parseFieldDescriptor (TX8 k).2.2.1 = some (tyX8 k) := by decide +kernel
abbrev cX8_init : ByteArray := prog_1_method_1_code
def yX8_init : MethodName := ⟨RX8, "<init>", "()V"⟩
abbrev cX8_set : ByteArray := prog_1_method_2_code
def yX8_set : MethodName := ⟨RX8, "set", "(III)I"⟩
abbrev cX8_wall : ByteArray := prog_1_method_3_code
def yX8_wall : MethodName := ⟨RX8, "wall", "(III)I"⟩
abbrev cX8_told : ByteArray := prog_1_method_4_code
def yX8_told : MethodName := ⟨RX8, "told", "(II)I"⟩
abbrev cX8_reckoned : ByteArray := prog_1_method_5_code
def yX8_reckoned : MethodName := ⟨RX8, "reckoned", "(II)I"⟩
abbrev cX8_isKind : ByteArray := prog_1_method_6_code
def yX8_isKind : MethodName := ⟨RX8, "isKind", "(I)Z"⟩
abbrev cX8_feed : ByteArray := prog_1_method_7_code
def yX8_feed : MethodName := ⟨RX8, "feed", "(I)I"⟩
abbrev cX8_text : ByteArray := prog_1_method_8_code
def yX8_text : MethodName := ⟨RX8, "text", "()I"⟩
abbrev cX8_learn : ByteArray := prog_1_method_9_code
def yX8_learn : MethodName := ⟨RX8, "learn", "()I"⟩
abbrev cX8_force : ByteArray := prog_1_method_10_code
def yX8_force : MethodName := ⟨RX8, "force", "(I)I"⟩
abbrev cX8_day : ByteArray := prog_1_method_11_code
def yX8_day : MethodName := ⟨RX8, "day", "(I)I"⟩
abbrev cX8_order : ByteArray := prog_1_method_12_code
def yX8_order : MethodName := ⟨RX8, "order", "(II)I"⟩
abbrev cX8_startOrder : ByteArray := prog_1_method_13_code
def yX8_startOrder : MethodName := ⟨RX8, "startOrder", "(LBeforeItGoes$Sheet;)Z"⟩
abbrev cX8_isOfDay : ByteArray := prog_1_method_14_code
def yX8_isOfDay : MethodName := ⟨RX8, "isOfDay", "(I)Z"⟩
abbrev cX8_ofDay : ByteArray := prog_1_method_15_code
def yX8_ofDay : MethodName := ⟨RX8, "ofDay", "(I)I"⟩
abbrev cX8_ofWallsDay : ByteArray := prog_1_method_16_code
def yX8_ofWallsDay : MethodName := ⟨RX8, "ofWallsDay", "(II)I"⟩
abbrev cX8_startTrial : ByteArray := prog_1_method_17_code
def yX8_startTrial : MethodName := ⟨RX8, "startTrial", "()V"⟩
abbrev cX8_liveWith : ByteArray := prog_1_method_18_code
def yX8_liveWith : MethodName := ⟨RX8, "liveWith", "(II)V"⟩
abbrev cX8_best : ByteArray := prog_1_method_19_code
def yX8_best : MethodName := ⟨RX8, "best", "(I)I"⟩
abbrev cX8_good : ByteArray := prog_1_method_20_code
def yX8_good : MethodName := ⟨RX8, "good", "(II)I"⟩
abbrev cX8_wetting : ByteArray := prog_1_method_21_code
def yX8_wetting : MethodName := ⟨RX8, "wetting", "(II)I"⟩
abbrev cX8_alone : ByteArray := prog_1_method_22_code
def yX8_alone : MethodName := ⟨RX8, "alone", "()I"⟩
abbrev cX8_tooWarm : ByteArray := prog_1_method_23_code
def yX8_tooWarm : MethodName := ⟨RX8, "tooWarm", "()I"⟩
abbrev cX8_gains : ByteArray := prog_1_method_24_code
def yX8_gains : MethodName := ⟨RX8, "gains", "(I)I"⟩
abbrev cX8_buckets : ByteArray := prog_1_method_25_code
def yX8_buckets : MethodName := ⟨RX8, "buckets", "(II)I"⟩
abbrev cX8_books : ByteArray := prog_1_method_26_code
def yX8_books : MethodName := ⟨RX8, "books", "(II)I"⟩
abbrev cX8_warms : ByteArray := prog_1_method_27_code
def yX8_warms : MethodName := ⟨RX8, "warms", "(I)J"⟩
abbrev cX8_notSo : ByteArray := prog_1_method_28_code
def yX8_notSo : MethodName := ⟨RX8, "notSo", "(LBeforeItGoes$Sheet;)I"⟩
abbrev cX8_dialsOf : ByteArray := prog_1_method_29_code
def yX8_dialsOf : MethodName := ⟨RX8, "dialsOf", "(LBeforeItGoes$Sheet;I)J"⟩
abbrev cX8_textsOf : ByteArray := prog_1_method_30_code
def yX8_textsOf : MethodName := ⟨RX8, "textsOf", "(LBeforeItGoes$Sheet;)I"⟩
abbrev cX8_kindsOf : ByteArray := prog_1_method_31_code
def yX8_kindsOf : MethodName := ⟨RX8, "kindsOf", "(LBeforeItGoes$Sheet;I)I"⟩
abbrev cX8_film : ByteArray := prog_1_method_32_code
def yX8_film : MethodName := ⟨RX8, "film", "(I)I"⟩
abbrev cX8_drawn : ByteArray := prog_1_method_33_code
def yX8_drawn : MethodName := ⟨RX8, "drawn", "(I)I"⟩
abbrev cX8_chance : ByteArray := prog_1_method_34_code
def yX8_chance : MethodName := ⟨RX8, "chance", "(III)J"⟩
abbrev cX8_warmOf : ByteArray := prog_1_method_35_code
def yX8_warmOf : MethodName := ⟨RX8, "warmOf", "(I)I"⟩
abbrev cX8_commonDivisor : ByteArray := prog_1_method_36_code
def yX8_commonDivisor : MethodName := ⟨RX8, "commonDivisor", "(II)I"⟩
abbrev cX8_image : ByteArray := prog_1_method_37_code
def yX8_image : MethodName := ⟨RX8, "image", "()I"⟩
abbrev cX8_back : ByteArray := prog_1_method_38_code
def yX8_back : MethodName := ⟨RX8, "back", "()I"⟩
abbrev cX8_count : ByteArray := prog_1_method_39_code
def yX8_count : MethodName := ⟨RX8, "count", "(I)I"⟩
abbrev cX8_sheet : ByteArray := prog_1_method_40_code
def yX8_sheet : MethodName := ⟨RX8, "sheet", "(III)I"⟩
abbrev cX8_cell : ByteArray := prog_1_method_41_code
def yX8_cell : MethodName := ⟨RX8, "cell", "(III)I"⟩
abbrev cX8_copy : ByteArray := prog_1_method_42_code
def yX8_copy : MethodName := ⟨RX8, "copy", "(IIIII)I"⟩
abbrev cX8_walls : ByteArray := prog_1_method_43_code
def yX8_walls : MethodName := ⟨RX8, "walls", "(IIII)I"⟩
abbrev cX8_taken : ByteArray := prog_1_method_44_code
def yX8_taken : MethodName := ⟨RX8, "taken", "(II)I"⟩
abbrev cX8_sheetAt : ByteArray := prog_1_method_45_code
def yX8_sheetAt : MethodName := ⟨RX8, "sheetAt", "(I)LBeforeItGoes$Sheet;"⟩
def RX9 : String := "BeforeItGoesModel"
def TX9 : u_T := fun k => match k with
  | 0 => ("BeforeItGoesModel", "thrown", "I", false)
  | 1 => ("BeforeItGoesModel", "texts", "[I", true)
  | 2 => ("BeforeItGoesModel", "textSize", "[I", true)
  | 3 => ("BeforeItGoesModel", "textCount", "I", false)
  | 4 => ("BeforeItGoesModel", "rule", "I", false)
  | 5 => ("BeforeItGoesModel", "tape", "[I", true)
  | 6 => ("BeforeItGoesModel", "taped", "I", false)
  | 7 => ("BeforeItGoesModel", "plaster", "[I", true)
  | 8 => ("BeforeItGoesModel", "kinds", "[I", true)
  | 9 => ("BeforeItGoesModel", "numbers", "[I", true)
  | 10 => ("BeforeItGoesModel", "yardRow", "[I", true)
  | 11 => ("BeforeItGoesModel", "wets", "[I", true)
  | 12 => ("BeforeItGoesModel", "wallMany", "I", false)
  | 13 => ("BeforeItGoesModel", "ofWarm", "I", false)
  | 14 => ("BeforeItGoesModel", "ofAge", "I", false)
  | 15 => ("BeforeItGoesModel", "ofDirt", "I", false)
  | 16 => ("BeforeItGoesModel", "ofYards", "I", false)
  | 17 => ("BeforeItGoesModel", "ofOff", "I", false)
  | 18 => ("BeforeItGoesModel", "ofNumber", "I", false)
  | 19 => ("BeforeItGoesModel", "from", "I", false)
  | 20 => ("BeforeItGoesModel", "size", "I", false)
  | 21 => ("BeforeItGoesModel", "here", "I", false)
  | 22 => ("BeforeItGoesModel", "token", "I", false)
  | 23 => ("BeforeItGoesModel", "tokenAt", "I", false)
  | 24 => ("BeforeItGoesModel", "tokenWorth", "J", false)
  | 25 => ("BeforeItGoesModel", "open", "I", false)
  | 26 => ("BeforeItGoesModel", "bad", "Z", false)
  | 27 => ("BeforeItGoesModel", "fault", "I", false)
  | 28 => ("BeforeItGoesModel", "orderRow", "[I", true)
  | 29 => ("BeforeItGoesModel", "ordered", "I", false)
  | 30 => ("BeforeItGoesModel", "ripenRow", "[I", true)
  | 31 => ("BeforeItGoesModel", "lastRow", "[I", true)
  | 32 => ("BeforeItGoesModel", "takeRow", "[I", true)
  | 33 => ("BeforeItGoesModel", "begunAt", "[I", true)
  | 34 => ("BeforeItGoesModel", "ripeAt", "[I", true)
  | 35 => ("BeforeItGoesModel", "doneAt", "[I", true)
  | 36 => ("BeforeItGoesModel", "offBy", "[I", true)
  | 37 => ("BeforeItGoesModel", "minute", "I", false)
  | 38 => ("BeforeItGoesModel", "next", "I", false)
  | 39 => ("BeforeItGoesModel", "begunLast", "I", false)
  | 40 => ("BeforeItGoesModel", "waited", "I", false)
  | 41 => ("BeforeItGoesModel", "badness", "I", false)
  | 42 => ("BeforeItGoesModel", "bestBad", "I", false)
  | 43 => ("BeforeItGoesModel", "bestDone", "I", false)
  | 44 => ("BeforeItGoesModel", "bestDigits", "I", false)
  | 45 => ("BeforeItGoesModel", "plasterKept", "[I", true)
  | 46 => ("BeforeItGoesModel", "wallsKept", "[I", true)
  | 47 => ("BeforeItGoesModel", "manyKept", "I", false)
  | 48 => ("BeforeItGoesModel", "ruleKept", "I", false)
  | 49 => ("BeforeItGoesModel", "isThere", "[Z", true)
  | 50 => ("BeforeItGoesModel", "sorts", "[I", true)
  | 51 => ("BeforeItGoesModel", "sheetSize", "[I", true)
  | _ => ("BeforeItGoesModel", "items", "[I", true)
def tyX9 : Nat → FieldType := fun k => match k with
  | 0 => .int
  | 1 => .array .int
  | 2 => .array .int
  | 3 => .int
  | 4 => .int
  | 5 => .array .int
  | 6 => .int
  | 7 => .array .int
  | 8 => .array .int
  | 9 => .array .int
  | 10 => .array .int
  | 11 => .array .int
  | 12 => .int
  | 13 => .int
  | 14 => .int
  | 15 => .int
  | 16 => .int
  | 17 => .int
  | 18 => .int
  | 19 => .int
  | 20 => .int
  | 21 => .int
  | 22 => .int
  | 23 => .int
  | 24 => .long
  | 25 => .int
  | 26 => .boolean
  | 27 => .int
  | 28 => .array .int
  | 29 => .int
  | 30 => .array .int
  | 31 => .array .int
  | 32 => .array .int
  | 33 => .array .int
  | 34 => .array .int
  | 35 => .array .int
  | 36 => .array .int
  | 37 => .int
  | 38 => .int
  | 39 => .int
  | 40 => .int
  | 41 => .int
  | 42 => .int
  | 43 => .int
  | 44 => .int
  | 45 => .array .int
  | 46 => .array .int
  | 47 => .int
  | 48 => .int
  | 49 => .array .boolean
  | 50 => .array .int
  | 51 => .array .int
  | _ => .array .int
abbrev wsX90 : List Cond := u_ws RX9 TX9 53
theorem nmX9 : ∀ a, a < 53 → ∀ b, b < 53 → a ≠ b → (TX9 a).2.1 ≠ (TX9 b).2.1 := by decide +kernel
theorem tyX9_ok : ∀ k, k < 53 → parseFieldDescriptor (TX9 k).2.2.1 = some (tyX9 k) := by decide +kernel
abbrev cX9_in : ByteArray := prog_11_method_2_code
def yX9_in : MethodName := ⟨RX9, "in", "(JJJ)Z"⟩
abbrev cX9_within : ByteArray := prog_11_method_3_code
def yX9_within : MethodName := ⟨RX9, "within", "(III)I"⟩
abbrev cX9_bitsOf : ByteArray := prog_11_method_4_code
def yX9_bitsOf : MethodName := ⟨RX9, "bitsOf", "(I)I"⟩
abbrev cX9_init : ByteArray := prog_11_method_5_code
def yX9_init : MethodName := ⟨RX9, "<init>", "()V"⟩
abbrev cX9_spell : ByteArray := prog_11_method_6_code
def yX9_spell : MethodName := ⟨RX9, "spell", "(IIIIIIIII)V"⟩
abbrev cX9_isWall : ByteArray := prog_11_method_7_code
def yX9_isWall : MethodName := ⟨RX9, "isWall", "(I)Z"⟩
abbrev cX9_set : ByteArray := prog_11_method_8_code
def yX9_set : MethodName := ⟨RX9, "set", "(III)I"⟩
abbrev cX9_wall : ByteArray := prog_11_method_9_code
def yX9_wall : MethodName := ⟨RX9, "wall", "(III)I"⟩
abbrev cX9_told : ByteArray := prog_11_method_10_code
def yX9_told : MethodName := ⟨RX9, "told", "(II)I"⟩
abbrev cX9_feed : ByteArray := prog_11_method_11_code
def yX9_feed : MethodName := ⟨RX9, "feed", "(I)I"⟩
abbrev cX9_byteAt : ByteArray := prog_11_method_12_code
def yX9_byteAt : MethodName := ⟨RX9, "byteAt", "(I)I"⟩
abbrev cX9_next : ByteArray := prog_11_method_13_code
def yX9_next : MethodName := ⟨RX9, "next", "()V"⟩
abbrev cX9_fail : ByteArray := prog_11_method_14_code
def yX9_fail : MethodName := ⟨RX9, "fail", "()V"⟩
abbrev cX9_isLetter : ByteArray := prog_11_method_15_code
def yX9_isLetter : MethodName := ⟨RX9, "isLetter", "(II)Z"⟩
abbrev cX9_isWord : ByteArray := prog_11_method_16_code
def yX9_isWord : MethodName := ⟨RX9, "isWord", "(IIIIIIII)Z"⟩
abbrev cX9_isSign : ByteArray := prog_11_method_17_code
def yX9_isSign : MethodName := ⟨RX9, "isSign", "(I)Z"⟩
abbrev cX9_opens : ByteArray := prog_11_method_18_code
def yX9_opens : MethodName := ⟨RX9, "opens", "()Z"⟩
abbrev cX9_name : ByteArray := prog_11_method_19_code
def yX9_name : MethodName := ⟨RX9, "name", "()I"⟩
abbrev cX9_atom : ByteArray := prog_11_method_20_code
def yX9_atom : MethodName := ⟨RX9, "atom", "()I"⟩
abbrev cX9_term : ByteArray := prog_11_method_21_code
def yX9_term : MethodName := ⟨RX9, "term", "()I"⟩
abbrev cX9_added : ByteArray := prog_11_method_22_code
def yX9_added : MethodName := ⟨RX9, "added", "()I"⟩
abbrev cX9_not : ByteArray := prog_11_method_23_code
def yX9_not : MethodName := ⟨RX9, "not", "()I"⟩
abbrev cX9_both : ByteArray := prog_11_method_24_code
def yX9_both : MethodName := ⟨RX9, "both", "()I"⟩
abbrev cX9_either : ByteArray := prog_11_method_25_code
def yX9_either : MethodName := ⟨RX9, "either", "()I"⟩
abbrev cX9_part : ByteArray := prog_11_method_26_code
def yX9_part : MethodName := ⟨RX9, "part", "(Z)I"⟩
abbrev cX9_read : ByteArray := prog_11_method_27_code
def yX9_read : MethodName := ⟨RX9, "read", "(II)I"⟩
abbrev cX9_text : ByteArray := prog_11_method_28_code
def yX9_text : MethodName := ⟨RX9, "text", "()I"⟩
abbrev cX9_force : ByteArray := prog_11_method_29_code
def yX9_force : MethodName := ⟨RX9, "force", "(I)I"⟩
abbrev cX9_says : ByteArray := prog_11_method_30_code
def yX9_says : MethodName := ⟨RX9, "says", "(IIIII)I"⟩
abbrev cX9_ripensOf : ByteArray := prog_11_method_31_code
def yX9_ripensOf : MethodName := ⟨RX9, "ripensOf", "(I)I"⟩
abbrev cX9_lastsOf : ByteArray := prog_11_method_32_code
def yX9_lastsOf : MethodName := ⟨RX9, "lastsOf", "(I)I"⟩
abbrev cX9_takesOf : ByteArray := prog_11_method_33_code
def yX9_takesOf : MethodName := ⟨RX9, "takesOf", "(I)I"⟩
abbrev cX9_gathers : ByteArray := prog_11_method_34_code
def yX9_gathers : MethodName := ⟨RX9, "gathers", "()V"⟩
abbrev cX9_toTrowel : ByteArray := prog_11_method_35_code
def yX9_toTrowel : MethodName := ⟨RX9, "toTrowel", "()I"⟩
abbrev cX9_trowels : ByteArray := prog_11_method_36_code
def yX9_trowels : MethodName := ⟨RX9, "trowels", "(I)V"⟩
abbrev cX9_lives : ByteArray := prog_11_method_37_code
def yX9_lives : MethodName := ⟨RX9, "lives", "()V"⟩
abbrev cX9_begins : ByteArray := prog_11_method_38_code
def yX9_begins : MethodName := ⟨RX9, "begins", "(I)V"⟩
abbrev cX9_livesPlain : ByteArray := prog_11_method_39_code
def yX9_livesPlain : MethodName := ⟨RX9, "livesPlain", "(I)V"⟩
abbrev cX9_setOf : ByteArray := prog_11_method_40_code
def yX9_setOf : MethodName := ⟨RX9, "setOf", "(I)I"⟩
abbrev cX9_isTells : ByteArray := prog_11_method_41_code
def yX9_isTells : MethodName := ⟨RX9, "isTells", "(I)Z"⟩
abbrev cX9_tells : ByteArray := prog_11_method_42_code
def yX9_tells : MethodName := ⟨RX9, "tells", "(I)I"⟩
abbrev cX9_day : ByteArray := prog_11_method_43_code
def yX9_day : MethodName := ⟨RX9, "day", "(I)I"⟩
abbrev cX9_laysOrder : ByteArray := prog_11_method_44_code
def yX9_laysOrder : MethodName := ⟨RX9, "laysOrder", "(I)Z"⟩
abbrev cX9_order : ByteArray := prog_11_method_45_code
def yX9_order : MethodName := ⟨RX9, "order", "(II)I"⟩
abbrev cX9_triesFrom : ByteArray := prog_11_method_46_code
def yX9_triesFrom : MethodName := ⟨RX9, "triesFrom", "(II)V"⟩
abbrev cX9_best : ByteArray := prog_11_method_47_code
def yX9_best : MethodName := ⟨RX9, "best", "(I)I"⟩
abbrev cX9_good : ByteArray := prog_11_method_48_code
def yX9_good : MethodName := ⟨RX9, "good", "(II)I"⟩
abbrev cX9_wetting : ByteArray := prog_11_method_49_code
def yX9_wetting : MethodName := ⟨RX9, "wetting", "(II)I"⟩
abbrev cX9_wet : ByteArray := prog_11_method_50_code
def yX9_wet : MethodName := ⟨RX9, "wet", "(I)V"⟩
abbrev cX9_alone : ByteArray := prog_11_method_51_code
def yX9_alone : MethodName := ⟨RX9, "alone", "()I"⟩
abbrev cX9_livesBy : ByteArray := prog_11_method_52_code
def yX9_livesBy : MethodName := ⟨RX9, "livesBy", "(II)V"⟩
abbrev cX9_tooWarm : ByteArray := prog_11_method_53_code
def yX9_tooWarm : MethodName := ⟨RX9, "tooWarm", "()I"⟩
abbrev cX9_gains : ByteArray := prog_11_method_54_code
def yX9_gains : MethodName := ⟨RX9, "gains", "(I)I"⟩
abbrev cX9_buckets : ByteArray := prog_11_method_55_code
def yX9_buckets : MethodName := ⟨RX9, "buckets", "(II)I"⟩
abbrev cX9_isSo : ByteArray := prog_11_method_56_code
def yX9_isSo : MethodName := ⟨RX9, "isSo", "(I)Z"⟩
abbrev cX9_books : ByteArray := prog_11_method_57_code
def yX9_books : MethodName := ⟨RX9, "books", "(II)I"⟩
abbrev cX9_tellsSort : ByteArray := prog_11_method_58_code
def yX9_tellsSort : MethodName := ⟨RX9, "tellsSort", "(I)I"⟩
abbrev cX9_laysSort : ByteArray := prog_11_method_59_code
def yX9_laysSort : MethodName := ⟨RX9, "laysSort", "(II)V"⟩
abbrev cX9_warms : ByteArray := prog_11_method_60_code
def yX9_warms : MethodName := ⟨RX9, "warms", "(I)J"⟩
abbrev cX9_film : ByteArray := prog_11_method_61_code
def yX9_film : MethodName := ⟨RX9, "film", "(I)I"⟩
abbrev cX9_draws : ByteArray := prog_11_method_62_code
def yX9_draws : MethodName := ⟨RX9, "draws", "(I)V"⟩
abbrev cX9_drawn : ByteArray := prog_11_method_63_code
def yX9_drawn : MethodName := ⟨RX9, "drawn", "(I)I"⟩
abbrev cX9_chance : ByteArray := prog_11_method_64_code
def yX9_chance : MethodName := ⟨RX9, "chance", "(III)J"⟩
abbrev cX9_image : ByteArray := prog_11_method_65_code
def yX9_image : MethodName := ⟨RX9, "image", "()I"⟩
abbrev cX9_back : ByteArray := prog_11_method_66_code
def yX9_back : MethodName := ⟨RX9, "back", "()I"⟩
abbrev cX9_count : ByteArray := prog_11_method_67_code
def yX9_count : MethodName := ⟨RX9, "count", "(I)I"⟩
abbrev cX9_isSheet : ByteArray := prog_11_method_68_code
def yX9_isSheet : MethodName := ⟨RX9, "isSheet", "(I)Z"⟩
abbrev cX9_sheet : ByteArray := prog_11_method_69_code
def yX9_sheet : MethodName := ⟨RX9, "sheet", "(III)I"⟩
abbrev cX9_cell : ByteArray := prog_11_method_70_code
def yX9_cell : MethodName := ⟨RX9, "cell", "(III)I"⟩
abbrev cX9_copy : ByteArray := prog_11_method_71_code
def yX9_copy : MethodName := ⟨RX9, "copy", "(IIIII)I"⟩
abbrev cX9_walls : ByteArray := prog_11_method_72_code
def yX9_walls : MethodName := ⟨RX9, "walls", "(IIII)I"⟩
abbrev cX9_over : ByteArray := prog_11_method_73_code
def yX9_over : MethodName := ⟨RX9, "over", "(I)I"⟩
abbrev cX9_taken : ByteArray := prog_11_method_74_code
def yX9_taken : MethodName := ⟨RX9, "taken", "(II)I"⟩
def RJ11 : String := "java/lang/Character"
def TJ11 : u_T := fun k => match k with
  | _ => ("", "", "", false)
def tyJ11 : Nat → FieldType := fun k => match k with
  | _ => .int
abbrev wsJ110 : List Cond := u_ws RJ11 TJ11 0
theorem nmJ11 : ∀ a, a < 0 → ∀ b, b < 0 → a ≠ b → (TJ11 a).2.1 ≠ (TJ11 b).2.1 := by decide +kernel
theorem tyJ11_ok : ∀ k, k < 0 → parseFieldDescriptor (TJ11 k).2.2.1 = some (tyJ11 k) := by decide +kernel
abbrev cJ11_isValidCodePoint_9a6ad : ByteArray := prog_12_method_11_code
def yJ11_isValidCodePoint_9a6ad : MethodName := ⟨RJ11, "isValidCodePoint", "(I)Z"⟩
abbrev cJ11_highSurrogate_5068e : ByteArray := prog_12_method_28_code
def yJ11_highSurrogate_5068e : MethodName := ⟨RJ11, "highSurrogate", "(I)C"⟩
abbrev cJ11_lowSurrogate_5068e : ByteArray := prog_12_method_29_code
def yJ11_lowSurrogate_5068e : MethodName := ⟨RJ11, "lowSurrogate", "(I)C"⟩
def RJ6 : String := "java/lang/Integer"
def TJ6 : u_T := fun k => match k with
  | _ => ("", "", "", false)
def tyJ6 : Nat → FieldType := fun k => match k with
  | _ => .int
abbrev wsJ60 : List Cond := u_ws RJ6 TJ6 0
theorem nmJ6 : ∀ a, a < 0 → ∀ b, b < 0 → a ≠ b → (TJ6 a).2.1 ≠ (TJ6 b).2.1 := by decide +kernel
theorem tyJ6_ok : ∀ k, k < 0 → parseFieldDescriptor (TJ6 k).2.2.1 = some (tyJ6 k) := by decide +kernel
abbrev cJ6_bitCount_0f7a4 : ByteArray := prog_13_method_49_code
def yJ6_bitCount_0f7a4 : MethodName := ⟨RJ6, "bitCount", "(I)I"⟩
def RJ9 : String := "java/lang/Math"
def TJ9 : u_T := fun k => match k with
  | _ => ("", "", "", false)
def tyJ9 : Nat → FieldType := fun k => match k with
  | _ => .int
abbrev wsJ90 : List Cond := u_ws RJ9 TJ9 0
theorem nmJ9 : ∀ a, a < 0 → ∀ b, b < 0 → a ≠ b → (TJ9 a).2.1 ≠ (TJ9 b).2.1 := by decide +kernel
theorem tyJ9_ok : ∀ k, k < 0 → parseFieldDescriptor (TJ9 k).2.2.1 = some (tyJ9 k) := by decide +kernel
abbrev cJ9_max_7cf53 : ByteArray := prog_14_method_65_code
def yJ9_max_7cf53 : MethodName := ⟨RJ9, "max", "(II)I"⟩
abbrev cJ9_min_7cf53 : ByteArray := prog_14_method_69_code
def yJ9_min_7cf53 : MethodName := ⟨RJ9, "min", "(II)I"⟩
def RJ0 : String := "java/lang/String"
def TJ0 : u_T := fun k => match k with
  | _ => ("", "", "", false)
def tyJ0 : Nat → FieldType := fun k => match k with
  | _ => .int
abbrev wsJ00 : List Cond := u_ws RJ0 TJ0 0
theorem nmJ0 : ∀ a, a < 0 → ∀ b, b < 0 → a ≠ b → (TJ0 a).2.1 ≠ (TJ0 b).2.1 := by decide +kernel
theorem tyJ0_ok : ∀ k, k < 0 → parseFieldDescriptor (TJ0 k).2.2.1 = some (tyJ0 k) := by decide +kernel
abbrev cJ0_length_8abf5 : ByteArray := prog_15_method_54_code
def yJ0_length_8abf5 : MethodName := ⟨RJ0, "length", "()I"⟩
abbrev cJ0_charAt_5068e : ByteArray := prog_15_method_56_code
def yJ0_charAt_5068e : MethodName := ⟨RJ0, "charAt", "(I)C"⟩
abbrev cJ0_indexOf_0f7a4 : ByteArray := prog_15_method_79_code
def yJ0_indexOf_0f7a4 : MethodName := ⟨RJ0, "indexOf", "(I)I"⟩
abbrev cJ0_indexOf_7cf53 : ByteArray := prog_15_method_80_code
def yJ0_indexOf_7cf53 : MethodName := ⟨RJ0, "indexOf", "(II)I"⟩
abbrev cJ0_coder_7d493 : ByteArray := prog_15_method_152_code
def yJ0_coder_7d493 : MethodName := ⟨RJ0, "coder", "()B"⟩
abbrev cJ0_isLatin1_aae02 : ByteArray := prog_15_method_154_code
def yJ0_isLatin1_aae02 : MethodName := ⟨RJ0, "isLatin1", "()Z"⟩
abbrev cJ0_checkIndex_df160 : ByteArray := prog_15_method_155_code
def yJ0_checkIndex_df160 : MethodName := ⟨RJ0, "checkIndex", "(II)V"⟩
abbrev cJ0_checkBoundsBeginEnd_23922 : ByteArray := prog_15_method_158_code
def yJ0_checkBoundsBeginEnd_23922 : MethodName := ⟨RJ0, "checkBoundsBeginEnd", "(III)V"⟩
def RJ1 : String := "java/lang/StringLatin1"
def TJ1 : u_T := fun k => match k with
  | _ => ("", "", "", false)
def tyJ1 : Nat → FieldType := fun k => match k with
  | _ => .int
abbrev wsJ10 : List Cond := u_ws RJ1 TJ1 0
theorem nmJ1 : ∀ a, a < 0 → ∀ b, b < 0 → a ≠ b → (TJ1 a).2.1 ≠ (TJ1 b).2.1 := by decide +kernel
theorem tyJ1_ok : ∀ k, k < 0 → parseFieldDescriptor (TJ1 k).2.2.1 = some (tyJ1 k) := by decide +kernel
abbrev cJ1_charAt_3b067 : ByteArray := prog_16_method_2_code
def yJ1_charAt_3b067 : MethodName := ⟨RJ1, "charAt", "([BI)C"⟩
abbrev cJ1_canEncode_9a6ad : ByteArray := prog_16_method_4_code
def yJ1_canEncode_9a6ad : MethodName := ⟨RJ1, "canEncode", "(I)Z"⟩
abbrev cJ1_indexOf_4cfef : ByteArray := prog_16_method_22_code
def yJ1_indexOf_4cfef : MethodName := ⟨RJ1, "indexOf", "([BIII)I"⟩
abbrev cJ1_indexOfChar_4cfef : ByteArray := prog_16_method_23_code
def yJ1_indexOfChar_4cfef : MethodName := ⟨RJ1, "indexOfChar", "([BIII)I"⟩
def RJ2 : String := "java/lang/StringUTF16"
def TJ2 : u_T := fun k => match k with
  | _ => ("", "", "", false)
def tyJ2 : Nat → FieldType := fun k => match k with
  | _ => .int
abbrev wsJ20 : List Cond := u_ws RJ2 TJ2 0
theorem nmJ2 : ∀ a, a < 0 → ∀ b, b < 0 → a ≠ b → (TJ2 a).2.1 ≠ (TJ2 b).2.1 := by decide +kernel
theorem tyJ2_ok : ∀ k, k < 0 → parseFieldDescriptor (TJ2 k).2.2.1 = some (tyJ2 k) := by decide +kernel
abbrev cJ2_getChar_3b067 : ByteArray := prog_17_method_5_code
def yJ2_getChar_3b067 : MethodName := ⟨RJ2, "getChar", "([BI)C"⟩
abbrev cJ2_length_9d52b : ByteArray := prog_17_method_6_code
def yJ2_length_9d52b : MethodName := ⟨RJ2, "length", "([B)I"⟩
abbrev cJ2_indexOf_4cfef : ByteArray := prog_17_method_40_code
def yJ2_indexOf_4cfef : MethodName := ⟨RJ2, "indexOf", "([BIII)I"⟩
abbrev cJ2_indexOfChar_4cfef : ByteArray := prog_17_method_47_code
def yJ2_indexOfChar_4cfef : MethodName := ⟨RJ2, "indexOfChar", "([BIII)I"⟩
abbrev cJ2_indexOfCharUnsafe_4cfef : ByteArray := prog_17_method_48_code
def yJ2_indexOfCharUnsafe_4cfef : MethodName := ⟨RJ2, "indexOfCharUnsafe", "([BIII)I"⟩
abbrev cJ2_indexOfSupplementary_4cfef : ByteArray := prog_17_method_49_code
def yJ2_indexOfSupplementary_4cfef : MethodName := ⟨RJ2, "indexOfSupplementary", "([BIII)I"⟩
abbrev cJ2_charAt_3b067 : ByteArray := prog_17_method_83_code
def yJ2_charAt_3b067 : MethodName := ⟨RJ2, "charAt", "([BI)C"⟩
abbrev cJ2_checkIndex_2214a : ByteArray := prog_17_method_91_code
def yJ2_checkIndex_2214a : MethodName := ⟨RJ2, "checkIndex", "(I[B)V"⟩
abbrev cJ2_checkBoundsBeginEnd_d044e : ByteArray := prog_17_method_93_code
def yJ2_checkBoundsBeginEnd_d044e : MethodName := ⟨RJ2, "checkBoundsBeginEnd", "(II[B)V"⟩
def RJ10 : String := "java/lang/System"
def TJ10 : u_T := fun k => match k with
  | _ => ("", "", "", false)
def tyJ10 : Nat → FieldType := fun k => match k with
  | _ => .int
abbrev wsJ100 : List Cond := u_ws RJ10 TJ10 0
theorem nmJ10 : ∀ a, a < 0 → ∀ b, b < 0 → a ≠ b → (TJ10 a).2.1 ≠ (TJ10 b).2.1 := by decide +kernel
theorem tyJ10_ok : ∀ k, k < 0 → parseFieldDescriptor (TJ10 k).2.2.1 = some (tyJ10 k) := by decide +kernel
def RJ3 : String := "jdk/internal/util/Preconditions"
def TJ3 : u_T := fun k => match k with
  | _ => ("", "", "", false)
def tyJ3 : Nat → FieldType := fun k => match k with
  | _ => .int
abbrev wsJ30 : List Cond := u_ws RJ3 TJ3 0
theorem nmJ3 : ∀ a, a < 0 → ∀ b, b < 0 → a ≠ b → (TJ3 a).2.1 ≠ (TJ3 b).2.1 := by decide +kernel
theorem tyJ3_ok : ∀ k, k < 0 → parseFieldDescriptor (TJ3 k).2.2.1 = some (tyJ3 k) := by decide +kernel
abbrev cJ3_checkIndex_8e157 : ByteArray := prog_19_method_11_code
def yJ3_checkIndex_8e157 : MethodName := ⟨RJ3, "checkIndex", "(IILjava/util/function/BiFunction;)I"⟩
abbrev cJ3_checkFromToIndex_8c36e : ByteArray := prog_19_method_12_code
def yJ3_checkFromToIndex_8c36e : MethodName := ⟨RJ3, "checkFromToIndex", "(IIILjava/util/function/BiFunction;)I"⟩
def RL : String := "BeforeItGoesLaw"
abbrev cL_law : ByteArray := code
def yL_law : MethodName := ⟨RL, "law", "([I)Z"⟩
abbrev vwCl : List vw_C := [(RX0, TX0, 17), (RX2, TX2, 4), (RX3, TX3, 5), (RX4, TX4, 3), (RX5, TX5, 7), (RX6, TX6, 6), (RX7, TX7, 3), (RX8, TX8, 10), (RX9, TX9, 53)]
end
section
/-! ===== the frame: one memory of whole numbers, a fixed layout of cells, contracts over it ===== -/
def gt : List Cond := lw_tbl.filter goodWord
theorem gt_of {w : Cond} (i : Nat) (h : lw_tbl[i]? = some w) (g : goodWord w = true) : w ∈ gt := List.mem_filter.mpr ⟨List.mem_of_getElem? h, g⟩
theorem gt_good {ws : List Cond} (h : ∀ w ∈ ws, w ∈ gt) : GoodIn gt ws := fun w hw => ⟨h w hw, good_of_word (List.mem_filter.mp (h w hw)).2⟩
def isNest : Cond → Bool
  | .fieldLinkNest .. => true
  | .methodLinkNest .. => true
  | _ => false
def nw : List Cond := lw_tbl.filter isNest
theorem nw_of {w : Cond} (i : Nat) (h : lw_tbl[i]? = some w) (g : isNest w = true) : w ∈ nw := List.mem_filter.mpr ⟨List.mem_of_getElem? h, g⟩
theorem nw_tab {w : Cond} (h : isNest w = true) : w.onTables = true := by
  cases w <;> first | rfl | (exact absurd h (by decide)) | (simp [isNest] at h)
theorem nw_warm {w : Cond} (h : isNest w = true) {s U : State} (hW : s.WarmedH U.vm) (hZ : va_Nw w s) : va_Nw w U := by
  cases w <;> first | exact va_Nw.warmF hW hZ | exact va_Nw.warmM hW hZ | (simp [isNest] at h)
abbrev Mem : Type := Nat → Nat → Int32
def wr (M : Mem) (c k : Nat) (x : Int32) : Mem := fun a => if a = c then upd (M c) k x else M a
def wrA (M : Mem) (c : Nat) (f : Nat → Int32) : Mem := fun a => if a = c then f else M a
theorem wr_same (M : Mem) (c k : Nat) (x : Int32) : wr M c k x c k = x := by simp [wr, upd]
theorem wr_cell (M : Mem) (c k j : Nat) (x : Int32) (h : j ≠ k) : wr M c k x c j = M c j := by simp [wr, upd, h]
theorem wr_ne (M : Mem) (c k a : Nat) (x : Int32) (h : a ≠ c) : wr M c k x a = M a := by simp [wr, h]
theorem wrA_same (M : Mem) (c : Nat) (f : Nat → Int32) : wrA M c f c = f := by simp [wrA]
theorem wrA_ne (M : Mem) (c a : Nat) (f : Nat → Int32) (h : a ≠ c) : wrA M c f a = M a := by simp [wrA, h]
abbrev LD : Type := (Nat × List Nat) ⊕ (Nat × Nat × (Nat → Nat))
def fv (ad : Nat → Nat) (f : Nat → Int32) (k c : Nat) : Value := match c with
  | 0 => .int (f k)
  | 1 => .long (f k).toInt64
  | j + 2 => .ref (ad j)
def flds (ad : Nat → Nat) (f : Nat → Int32) (sp : List Nat) : List Value := sp.mapIdx (fun k c => fv ad f k c)
def arrR (ad : Nat → Nat) (f : Nat → Int32) (ty : Nat) (ch : Nat → Nat) : (Nat → Int32) ⊕ (Nat → Int64) ⊕ (Nat → UInt32) ⊕ (Nat → UInt64) ⊕ (Nat → Option Nat) := match ty with
  | 0 => .inl f
  | 1 => .inl f
  | _ => .inr (.inr (.inr (.inr fun j => some (ad (ch j)))))
/-- the launch, the classes, the arrays' classes, the addresses of the cells, what may be changed -/
abbrev XT : Type := Launch × va_G × (Nat → ClassId) × (Nat → Nat) × (Nat → Prop)
def ent (cy : Nat → ClassId) (ad : Nat → Nat) (f : Nat → Int32) : LD → va_E
  | .inl (ci, sp) => .inr (ci, flds ad f sp)
  | .inr (ty, len, ch) => .inl (cy ty, len, arrR ad f ty ch)
def wsO (L : List LD) (X : XT) (M : Mem) : va_W := L.mapIdx fun c d => (X.2.2.2.1 c, ent X.2.2.1 X.2.2.2.1 (M c) d)
def tysO (cy : Nat → ClassId) : List (ClassId × FieldType) := [(cy 0, .int), (cy 1, .boolean), (cy 2, .object "BeforeItGoes$Text"), (cy 3, .object "BeforeItGoes$Sheet")]
theorem wsO_at {L : List LD} {X : XT} {M : Mem} {c : Nat} {d : LD} (h : L[c]? = some d) : (wsO L X M)[c]? = some (X.2.2.2.1 c, ent X.2.2.1 X.2.2.2.1 (M c) d) := by
  simp [wsO, List.getElem?_mapIdx, h]
theorem flds_at {ad : Nat → Nat} {f : Nat → Int32} {sp : List Nat} {k c : Nat} (h : sp[k]? = some c) : (flds ad f sp)[k]? = some (fv ad f k c) := by
  simp [flds, List.getElem?_mapIdx, h]
theorem flds_len {ad : Nat → Nat} {f : Nat → Int32} {sp : List Nat} {k c : Nat} (h : sp[k]? = some c) : k < (flds ad f sp).length := by
  have := (List.getElem?_eq_some_iff.mp h).1
  simpa [flds] using this
theorem flds_set {ad : Nat → Nat} {f : Nat → Int32} {sp : List Nat} {k c : Nat} {x : Int32} {v : Value} (h : sp[k]? = some c) (hv : fv ad (upd f k x) k c = v) (hc : c < 2) : (flds ad f sp).set k v = flds ad (upd f k x) sp := by
  apply List.ext_getElem?
  intro i
  by_cases hi : i = k
  · subst hi
    rw [List.getElem?_set_self (flds_len h), flds_at h, hv]
  · rw [List.getElem?_set_ne (fun e => hi e.symm)]
    simp only [flds, List.getElem?_mapIdx]
    cases hs : sp[i]? with
    | none => rfl
    | some d =>
      simp only [Option.map_some]
      congr 1
      unfold fv
      split <;> simp [upd, hi]
theorem wsO_set {L : List LD} {X : XT} {M M' : Mem} {c : Nat} {d : LD} {e : va_E} (h : L[c]? = some d) (he : ent X.2.2.1 X.2.2.2.1 (M' c) d = e) (hM : ∀ a, a ≠ c → M' a = M a) : (wsO L X M).set c (X.2.2.2.1 c, e) = wsO L X M' := by
  apply List.ext_getElem?
  intro i
  by_cases hi : i = c
  · subst hi
    rw [List.getElem?_set_self (by have := (List.getElem?_eq_some_iff.mp h).1; simpa [wsO] using this), wsO_at h, he]
  · rw [List.getElem?_set_ne (fun e => hi e.symm)]
    simp only [wsO, List.getElem?_mapIdx]
    cases hs : L[i]? with
    | none => rfl
    | some d =>
      simp only [Option.map_some]
      rw [hM i hi]
theorem wsO_put {L : List LD} {X : XT} {M : Mem} {c ci k cd : Nat} {sp : List Nat} {x : Int32} {v : Value} (h : L[c]? = some (.inl (ci, sp))) (hk : sp[k]? = some cd) (hv : fv X.2.2.2.1 (upd (M c) k x) k cd = v) (hc : cd < 2) : (wsO L X M).set c (X.2.2.2.1 c, .inr (ci, (flds X.2.2.2.1 (M c) sp).set k v)) = wsO L X (wr M c k x) := by
  refine wsO_set h ?_ (fun a ha => wr_ne M c k a x ha)
  show Sum.inr (ci, flds X.2.2.2.1 (wr M c k x c) sp) = _
  rw [flds_set hk hv hc]
  congr 3
  simp [wr]
theorem wsO_st {L : List LD} {X : XT} {M : Mem} {c ty n k : Nat} {ch : Nat → Nat} {x : Int32} (h : L[c]? = some (.inr (ty, n, ch))) (ht : ty < 2) : (wsO L X M).set c (X.2.2.2.1 c, .inl (X.2.2.1 ty, n, .inl (upd (M c) k x))) = wsO L X (wr M c k x) := by
  refine wsO_set h ?_ (fun a ha => wr_ne M c k a x ha)
  have e : wr M c k x c = upd (M c) k x := by simp [wr]
  rw [e]
  match ty, ht with
  | 0, _ => rfl
  | 1, _ => rfl
theorem wsO_stA {L : List LD} {X : XT} {M : Mem} {c ty n : Nat} {ch : Nat → Nat} {f : Nat → Int32} (h : L[c]? = some (.inr (ty, n, ch))) (ht : ty < 2) : (wsO L X M).set c (X.2.2.2.1 c, .inl (X.2.2.1 ty, n, .inl f)) = wsO L X (wrA M c f) := by
  refine wsO_set h ?_ (fun a ha => wrA_ne M c a f ha)
  rw [wrA_same]
  match ty, ht with
  | 0, _ => rfl
  | 1, _ => rfl
def AD (L : List LD) (X : XT) : Prop := (∀ i j : Nat, i < L.length → j < L.length → X.2.2.2.1 i = X.2.2.2.1 j → i = j) ∧ ∀ i : Nat, i < L.length → X.2.2.2.2 (X.2.2.2.1 i)
theorem wsO_ad {L : List LD} {X : XT} {M : Mem} {k : Nat} {q : Nat × va_E} (h : (wsO L X M)[k]? = some q) : k < L.length ∧ q.1 = X.2.2.2.1 k := by
  simp only [wsO, List.getElem?_mapIdx] at h
  cases hs : L[k]? with
  | none => rw [hs] at h; cases h
  | some d =>
    rw [hs] at h
    cases h
    exact ⟨(List.getElem?_eq_some_iff.mp hs).1, rfl⟩
theorem AD.D {L : List LD} {X : XT} (h : AD L X) (M : Mem) : va_D X.2.2.2.2 (wsO L X M) := by
  refine ⟨fun i j p q hp hq e => ?_, fun k q hq => ?_⟩
  · obtain ⟨h1, h2⟩ := wsO_ad hp
    obtain ⟨h3, h4⟩ := wsO_ad hq
    exact h.1 i j h1 h3 (by rw [← h2, ← h4, e])
  · obtain ⟨h1, h2⟩ := wsO_ad hq
    rw [h2]
    exact h.2 k h1
/-- the statics that the class reads: four tables, the literals -/
def tnm (j : Nat) : String := match j with
  | 0 => "LEAST"
  | 1 => "MOST"
  | 2 => "PART_LEAST"
  | _ => "PART_MOST"
def tab (j : Nat) : List Int32 := match j with
  | 0 => [0, 0, 0, 1, 0, 0, 0, 1, 0]
  | 1 => [40, 9, 9, 2, 60, 20, 9, 20, 1]
  | 2 => [1, 1, 0]
  | _ => [240, 20, 999]
def tb (j : Nat) (i : Nat) : Int32 := (tab j).getD i 0
def nS : Nat := 14
def lenS : List Nat := [76, 8, 4, 3, 4, 5, 3, 6, 6, 5, 6, 2, 3, 3]
def bytS : List (List Int32) := [[114, 105, 112, 101, 110, 115, 32, 54, 48, 32, 45, 32, 119, 97, 114, 109, 32, 45, 32, 100, 105, 114, 116, 32, 42, 32, 52, 32, 45, 32, 97, 103, 101, 32, 42, 32, 50, 32, 59, 32, 116, 97, 107, 101, 115, 32, 50, 32, 59, 32, 115, 112, 111, 105, 108, 115, 32, 111, 102, 102, 32, 42, 32, 111, 102, 102, 32, 42, 32, 121, 97, 114, 100, 115, 32, 59], [40, 41, 59, 43, 45, 42, 60, 61], [119, 97, 114, 109], [97, 103, 101], [100, 105, 114, 116], [121, 97, 114, 100, 115], [111, 102, 102], [110, 117, 109, 98, 101, 114], [114, 105, 112, 101, 110, 115], [116, 97, 107, 101, 115], [115, 112, 111, 105, 108, 115], [111, 114], [97, 110, 100], [110, 111, 116]]
def whS : List (String × Nat × String) := [("BeforeItGoes", 73, "ripens 60 - warm - dirt * 4 - age * 2 ; takes 2 ; spoils off * off * yards ;"), ("BeforeItGoes$Tape", 49, "();+-*<="), ("BeforeItGoes$Tape", 72, "warm"), ("BeforeItGoes$Tape", 74, "age"), ("BeforeItGoes$Tape", 76, "dirt"), ("BeforeItGoes$Tape", 78, "yards"), ("BeforeItGoes$Tape", 80, "off"), ("BeforeItGoes$Tape", 82, "number"), ("BeforeItGoes$Tape", 84, "ripens"), ("BeforeItGoes$Tape", 86, "takes"), ("BeforeItGoes$Tape", 88, "spoils"), ("BeforeItGoes$Tape", 90, "or"), ("BeforeItGoes$Tape", 92, "and"), ("BeforeItGoes$Tape", 94, "not")]
def St (X : XT) (U : State) (H : Heap) : Prop :=
  (∀ j : Nat, j < 4 → va_Z "BeforeItGoes" (tnm j) "[I" (.ref (X.2.2.2.1 (1000 + j))) X.2.2.2.2 U H ∧ va_T .int (X.2.2.2.1 (1000 + j)) (tab j).length (fun i => .int (tb j i)) X.2.2.2.2 U H) ∧
  vk_S nS lenS bytS (fun i => X.2.2.2.1 (2000 + i)) (fun i => X.2.2.2.1 (3000 + i)) X.2.2.2.2 U H ∧
  (∀ (i : Nat) (q : String × Nat × String), whS[i]? = some q → vk_R q.1 q.2.1 q.2.2 (X.2.2.2.1 (2000 + i)) U) ∧
  va_Z "java/lang/String" "COMPACT_STRINGS" "Z" (.int 1) X.2.2.2.2 U H ∧ (∀ w ∈ nw, va_Nw w U) ∧ va_Zq "jdk/internal/util/Preconditions" "SIOOBE_FORMATTER" "Ljava/util/function/BiFunction;" X.2.2.2.2 U H
theorem St.kept {X : XT} {U : State} {H H1 : Heap} (h : St X U H) (hq : ∀ a : Nat, a < H.size → ¬ X.2.2.2.2 a → H1[a]? = H[a]?) : St X U H1 :=
  ⟨fun j hj => ⟨(h.1 j hj).1.kept hq, (h.1 j hj).2.kept hq⟩, h.2.1.kept hq, h.2.2.1, h.2.2.2.1.kept hq, h.2.2.2.2.1, h.2.2.2.2.2.kept hq⟩
theorem St.warm {X : XT} {s U : State} {H : Heap} (hW : s.WarmedH U.vm) (h : St X s H) : St X U H :=
  ⟨fun j hj => ⟨(h.1 j hj).1.moved hW.alike, (h.1 j hj).2.moved hW.alike⟩, h.2.1.moved hW.alike, fun i q hq => vk_R.warm hW (h.2.2.1 i q hq), h.2.2.2.1.moved hW.alike, fun w hw => nw_warm (List.mem_filter.mp hw).2 hW (h.2.2.2.2.1 w hw), h.2.2.2.2.2.moved hW.alike⟩
theorem St.same {X : XT} {u U : State} {H : Heap} (hv : U.vm = u.vm) (h : St X u H) : St X U H :=
  ⟨fun j hj => ⟨(h.1 j hj).1.moved (by rw [hv]; exact Vm.Alike.refl _), (h.1 j hj).2.moved (by rw [hv]; exact Vm.Alike.refl _)⟩, h.2.1.moved (by rw [hv]; exact Vm.Alike.refl _), fun i q hq => vk_R.same hv (h.2.2.1 i q hq), h.2.2.2.1.moved (by rw [hv]; exact Vm.Alike.refl _), fun w hw => va_Nw.same (nw_tab (List.mem_filter.mp hw).2) hv.symm (h.2.2.2.2.1 w hw), h.2.2.2.2.2.moved (by rw [hv]; exact Vm.Alike.refl _)⟩
abbrev rm (d : Nat) : Room := { frames := d, cells := 0, slots := 0, locals := 40 * d }
def Pre (L : List LD) (X : XT) (M : Mem) : State → Prop := fun U => va_P X.2.1 vwCl (wsO L X M) U.heap ∧ va_K X.2.1 vwCl (tysO X.2.2.1) U ∧ St X U U.heap ∧ AD L X
def Qo (L : List LD) (X : XT) (v : Option Value) (M : Mem) : Array Value → State → Outcome → State → Prop := fun _ st o t => o = .returned v ∧ va_P X.2.1 vwCl (wsO L X M) t.heap ∧ va_F X.2.2.2.2 st t
/-- a method's contract: from the memory M it comes to the memory M', and answers v -/
def CT (L : List LD) (X : XT) (d : Nat) (y : MethodName) (b : ByteArray) (nL : Nat) (ret : Option FieldType) (args : List Value) (M M' : Mem) (v : Option Value) : Prop :=
  Met X.1 y (.code y b nL ret :: gt) (rm d) (va_Pc args (Pre L X M)) (Qo L X v M') 0 0 X.2.2.2.2
/-- the machine in a method: program, environment, state at its start, method, arguments, what is below, its code, the room, cells and slots that are made -/
abbrev MT : Type := Program × Env × State × MethodId × Array Value × List Frame × Method × Code × Room × Nat × Nat
def Kx (L : List LD) (X : XT) (Γ : MT) (own : String) (b : ByteArray) (nL d : Nat) (ret : Option FieldType) : Prop :=
  Γ.1.tables.exec = Jvm.exec ∧ Γ.2.2.2.2.2.2.2.1.code = b ∧ Γ.2.2.2.2.2.2.1.sig.returnType = ret ∧ (∀ w ∈ gt, w.before Γ.2.2.2.2.1 Γ.2.2.1 = true) ∧ Γ.2.2.1.vm.findClass own = some Γ.2.2.2.1.cls ∧ Γ.2.2.2.2.2.2.1.locks = false ∧ Γ.2.2.2.2.2.2.2.1.maxLocals = nL ∧
  va_K X.2.1 vwCl (tysO X.2.2.1) Γ.2.2.1 ∧ St X Γ.2.2.1 Γ.2.2.1.heap ∧ AD L X ∧ d ≤ Γ.2.2.2.2.2.2.2.2.1.frames ∧ 40 * d ≤ Γ.2.2.2.2.2.2.2.2.1.locals ∧ Γ.2.2.2.2.2.2.2.2.2.1 ≤ Γ.2.2.2.2.2.2.2.2.1.cells ∧ Γ.2.2.2.2.2.2.2.2.2.2 ≤ Γ.2.2.2.2.2.2.2.2.1.slots
def G (L : List LD) (X : XT) (Γ : MT) (nL : Nat) (Q : State → Prop) (pc : Nat) (lv : List (Nat × Value)) (st : List Value) (M : Mem) : Prop :=
  ∀ (H : Heap) (locs : List Loc) (ls : Array Slot), lv_has ls nL lv → va_P X.2.1 vwCl (wsO L X M) H → va_S X.2.2.2.2 Γ.2.2.1.heap H locs → W Γ.1 X.1 Γ.2.1 Γ.2.2.2.2.2.2.2.2.1 Γ.2.2.1 Γ.2.2.2.1 Γ.2.2.2.2.1 Γ.2.2.2.2.2.1 Γ.2.2.2.2.2.2.1 Γ.2.2.2.2.2.2.2.1 H locs Γ.2.2.2.2.2.2.2.2.2.1 Γ.2.2.2.2.2.2.2.2.2.2 Q (F0 Γ.2.2.2.1 pc ls st)
def QM (L : List LD) (X : XT) (Γ : MT) (v : Option Value) (M : Mem) : State → Prop := MQ Γ.2.2.2.2.2.1 (Qo L X v M) Γ.2.2.2.2.1 Γ.2.2.1 Γ.2.2.2.2.2.2.2.2.2.1 Γ.2.2.2.2.2.2.2.2.2.2 X.2.2.2.2
set_option maxHeartbeats 1000000 in
theorem CT.of {L : List LD} {X : XT} {d : Nat} {y : MethodName} {b : ByteArray} {nL : Nat} {ret : Option FieldType} {args : List Value} {M M' : Mem} {v : Option Value} {lv : List (Nat × Value)} (hy : plainName y.cls = true) (hn : (lg_sl args).length ≤ nL) (hlv : lv_args 0 args = lv)
    (k : ∀ Γ : MT, Kx L X Γ y.cls b nL d ret → G L X Γ nL (QM L X Γ v M') 0 lv [] M) : CT L X d y b nL ret args M M' v := by
  refine Met.ofW (cc := b) (maxL := nL) (ret := ret) hy rfl ?_
  intro p e s m as below meth c s₁ B hml hv
  obtain ⟨rfl, hP, hK, hS, hA⟩ := hv
  have hts : ∀ w ∈ gt, w.before args.toArray s = true := fun w hw => atoms_spec (ws := .code y b nL ret :: gt) B.pre w (List.mem_cons_of_mem _ hw)
  have hl := lv_entry args (n := nL) hn
  rw [lg_entry_eq]
  rw [hlv] at hl
  exact k (p, e, s, m, args.toArray, below, meth, c, rm d, 0, 0) ⟨B.exec, B.bytes, B.returns, hts, findClass_of_methodNamed B.named, B.notSynchronized, hml, hK, hS, hA, Nat.le_refl _, Nat.le_refl _, Nat.le_refl _, Nat.le_refl _⟩ s.heap [] _ hl hP va_S.rf
end
section
/-! ===== rows over G: an instruction, a row; h carries what is still to be done ===== -/
def bnd {α β : Type} (x : α) (f : α → β) : β := f x
def ck {β : Type} (i : Int32) (n : Nat) (x : Option β) : Option β := if i < 0 ∨ n ≤ i.toNatClampNeg then none else x
def nz {β : Type} (y : Int32) (x : Option β) : Option β := if y = 0 then none else x
def nzL {β : Type} (y : Int64) (x : Option β) : Option β := if y = 0 then none else x
def rq {β : Type} (c : Prop) [Decidable c] (x : Option β) : Option β := if c then x else none
def ob {α β : Type} (x : Option α) (k : α → Option β) : Option β := match x with
  | none => none
  | some a => k a
def ob2 {α γ β : Type} (x : Option (α × γ)) (k : α → γ → Option β) : Option β := match x with
  | none => none
  | some (a, c) => k a c
def jp {α β : Type} (k : α) (f : α → β) : β := f k
def b2i (b : Bool) : Int32 := if b = true then 1 else 0
def imax (x y : Int32) : Int32 := if x < y then y else x
def imin (x y : Int32) : Int32 := if y < x then y else x
theorem ck_e {β : Type} {i : Int32} {n : Nat} {x : Option β} {r : β} (h : ck i n x = some r) : vp_in i n ∧ x = some r := by
  unfold ck at h
  split at h
  · cases h
  · exact ⟨by assumption, h⟩
theorem nz_e {β : Type} {y : Int32} {x : Option β} {r : β} (h : nz y x = some r) : ¬ y = 0 ∧ x = some r := by
  unfold nz at h
  split at h
  · cases h
  · exact ⟨by assumption, h⟩
theorem nzL_e {β : Type} {y : Int64} {x : Option β} {r : β} (h : nzL y x = some r) : ¬ y = 0 ∧ x = some r := by
  unfold nzL at h
  split at h
  · cases h
  · exact ⟨by assumption, h⟩
theorem rq_e {β : Type} {c : Prop} [Decidable c] {x : Option β} {r : β} (h : rq c x = some r) : c ∧ x = some r := by
  unfold rq at h
  split at h
  · exact ⟨by assumption, h⟩
  · cases h
theorem bnd_e {α β : Type} {e : α} {f : α → Option β} {r : β} (h : bnd e f = some r) : ∃ v, e = v ∧ f v = some r := ⟨e, rfl, h⟩
def FU : Nat := 100000
theorem ob_e {α β : Type} {x : Option α} {k : α → Option β} {r : β} (h : ob x k = some r) : ∃ a, x = some a ∧ k a = some r := by
  cases x with
  | none => cases h
  | some a => exact ⟨a, rfl, h⟩
theorem ob2_e {α γ β : Type} {x : Option (α × γ)} {k : α → γ → Option β} {r : β} (h : ob2 x k = some r) : ∃ a c, x = some (a, c) ∧ k a c = some r := by
  cases x with
  | none => cases h
  | some q => exact ⟨q.1, q.2, rfl, h⟩
theorem ite_e {β : Type} {c : Prop} [Decidable c] {a b : Option β} {r : β} (h : (if c then a else b) = some r) : (c → a = some r) ∧ (¬ c → b = some r) :=
  ⟨fun z => by rw [if_pos z] at h; exact h, fun z => by rw [if_neg z] at h; exact h⟩
def st1 (i : Nat) (v : Value) (lv : List (Nat × Value)) : List (Nat × Value) := (i, v) :: lv.filter (fun q => !(q.1 == i) && !(q.1 + 1 == i && q.2.category == 2))
def st2 (i : Nat) (v : Value) (lv : List (Nat × Value)) : List (Nat × Value) := (i, v) :: lv.filter (fun q => !(q.1 == i) && (!(q.1 == i + 1) && !(q.1 + 1 == i && q.2.category == 2)))
/-- a field of an object of class number ci: the link of index idx in class own is its k-th -/
def FL (own : String) (idx ci k : Nat) : Prop := ∃ (C : String) (T : u_T) (N : Nat), vwCl[ci]? = some (C, T, N) ∧ k < N ∧ (∀ w ∈ u_ws C T N, w ∈ gt) ∧ (Cond.fieldLink own idx (T k).1 (T k).2.1 (T k).2.2.1 ∈ gt ∨ ∃ host : String, Cond.fieldLinkNest own idx (T k).1 (T k).2.1 (T k).2.2.1 host ∈ nw)
/-- .. and it may be written, being of type ty -/
def FP (own : String) (idx ci k : Nat) (ty : FieldType) : Prop := ∃ (C : String) (T : u_T) (N : Nat) (ty0 : Nat → FieldType), vwCl[ci]? = some (C, T, N) ∧ k < N ∧ (∀ w ∈ u_ws C T N, w ∈ gt) ∧ (Cond.fieldLink own idx (T k).1 (T k).2.1 (T k).2.2.1 ∈ gt ∨ ∃ host : String, Cond.fieldLinkNest own idx (T k).1 (T k).2.1 (T k).2.2.1 host ∈ nw) ∧ (∀ j, j < N → parseFieldDescriptor (T j).2.2.1 = some (ty0 j)) ∧ (∀ a, a < N → ∀ b, b < N → a ≠ b → (T a).2.1 ≠ (T b).2.1) ∧ (T k).2.2.2 = false ∧ parseFieldDescriptor (T k).2.2.1 = some ty
/-- a call of a method of an object -/
def MV (own : String) (idx : Nat) (y : MethodName) (b : ByteArray) (nL : Nat) (ret : Option FieldType) (n : Nat) : Prop :=
  (Cond.methodLink own idx y ∈ gt ∨ ∃ host : String, Cond.methodLinkNest own idx y host ∈ nw) ∧ Cond.instanceMethod y ∈ gt ∧ Cond.selects y.cls y y ∈ gt ∧ Cond.initialized y.cls ∈ gt ∧ Cond.code y b nL ret ∈ gt ∧ (y.cls ≠ "java/lang/invoke/MethodHandle" ∧ y.cls ≠ "java/lang/invoke/VarHandle" ∧ (parseMethodDescriptor y.desc).map (fun d => d.parameters.length) = some n) ∧ nL ≤ 20
/-- a call of a static method -/
def MS (own : String) (idx : Nat) (y : MethodName) (b : ByteArray) (nL : Nat) (ret : Option FieldType) (n : Nat) : Prop :=
  (Cond.methodLink own idx y ∈ gt ∨ ∃ host : String, Cond.methodLinkNest own idx y host ∈ nw) ∧ Cond.static y ∈ gt ∧ Cond.initialized y.cls ∈ gt ∧ Cond.code y b nL ret ∈ gt ∧ (y.cls ≠ "java/lang/invoke/MethodHandle" ∧ y.cls ≠ "java/lang/invoke/VarHandle" ∧ (parseMethodDescriptor y.desc).map (fun d => d.parameters.length) = some n) ∧ nL ≤ 20
section ROWS
variable {L : List LD} {X : XT} {Γ : MT} {own : String} {b : ByteArray} {nL d : Nat} {ret : Option FieldType} {Q : State → Prop} {pc : Nat} {lv : List (Nat × Value)} {st : List Value} {M : Mem}
theorem Kx.ex (K : Kx L X Γ own b nL d ret) : Γ.1.tables.exec = Jvm.exec := K.1
theorem Kx.cd (K : Kx L X Γ own b nL d ret) : Γ.2.2.2.2.2.2.2.1.code = b := K.2.1
theorem Kx.rt (K : Kx L X Γ own b nL d ret) : Γ.2.2.2.2.2.2.1.sig.returnType = ret := K.2.2.1
theorem Kx.ts (K : Kx L X Γ own b nL d ret) : ∀ w ∈ gt, w.before Γ.2.2.2.2.1 Γ.2.2.1 = true := K.2.2.2.1
theorem Kx.ow (K : Kx L X Γ own b nL d ret) : Γ.2.2.1.vm.findClass own = some Γ.2.2.2.1.cls := K.2.2.2.2.1
theorem Kx.lk (K : Kx L X Γ own b nL d ret) : Γ.2.2.2.2.2.2.1.locks = false := K.2.2.2.2.2.1
theorem Kx.ml (K : Kx L X Γ own b nL d ret) : Γ.2.2.2.2.2.2.2.1.maxLocals = nL := K.2.2.2.2.2.2.1
theorem Kx.kk (K : Kx L X Γ own b nL d ret) : va_K X.2.1 vwCl (tysO X.2.2.1) Γ.2.2.1 := K.2.2.2.2.2.2.2.1
theorem Kx.sta (K : Kx L X Γ own b nL d ret) : St X Γ.2.2.1 Γ.2.2.1.heap := K.2.2.2.2.2.2.2.2.1
theorem Kx.nw (K : Kx L X Γ own b nL d ret) : ∀ w ∈ nw, w.before Γ.2.2.2.2.1 Γ.2.2.1 = true := fun w hw => va_Nw.use (nw_tab (List.mem_filter.mp hw).2) (K.sta.2.2.2.2.1 w hw)
theorem Kx.ad (K : Kx L X Γ own b nL d ret) : AD L X := K.2.2.2.2.2.2.2.2.2.1
theorem Kx.fr (K : Kx L X Γ own b nL d ret) : d ≤ Γ.2.2.2.2.2.2.2.2.1.frames := K.2.2.2.2.2.2.2.2.2.2.1
theorem Kx.lo (K : Kx L X Γ own b nL d ret) : 40 * d ≤ Γ.2.2.2.2.2.2.2.2.1.locals := K.2.2.2.2.2.2.2.2.2.2.2.1
theorem Kx.ce (K : Kx L X Γ own b nL d ret) : Γ.2.2.2.2.2.2.2.2.2.1 ≤ Γ.2.2.2.2.2.2.2.2.1.cells := K.2.2.2.2.2.2.2.2.2.2.2.2.1
theorem Kx.sl (K : Kx L X Γ own b nL d ret) : Γ.2.2.2.2.2.2.2.2.2.2 ≤ Γ.2.2.2.2.2.2.2.2.1.slots := K.2.2.2.2.2.2.2.2.2.2.2.2.2
theorem g_iconst (K : Kx L X Γ own b nL d ret) {pn : Nat} (hp : pc + 1 = pn) {n : Int} {v : Int32} (hv : Int32.ofInt n = v) (hd : decode b pc = .ok (.iconst n, 1)) (k : G L X Γ nL Q pn lv (.int v :: st) M) : G L X Γ nL Q pc lv st M := by
  subst hp
  exact fun H locs ls hl hP hS => lv_iconst K.ex K.cd hd hv (k H locs ls hl hP hS)
theorem g_bipush (K : Kx L X Γ own b nL d ret) {pn : Nat} (hp : pc + 2 = pn) {n : Int} {v : Int32} (hv : (Int8.ofInt n).toInt32 = v) (hd : decode b pc = .ok (.bipush n, 2)) (k : G L X Γ nL Q pn lv (.int v :: st) M) : G L X Γ nL Q pc lv st M := by
  subst hp
  exact fun H locs ls hl hP hS => lv_bipush K.ex K.cd hd hv (k H locs ls hl hP hS)
theorem g_sipush (K : Kx L X Γ own b nL d ret) {pn : Nat} (hp : pc + 3 = pn) {n : Int} {v : Int32} (hv : (Int16.ofInt n).toInt32 = v) (hd : decode b pc = .ok (.sipush n, 3)) (k : G L X Γ nL Q pn lv (.int v :: st) M) : G L X Γ nL Q pc lv st M := by
  subst hp
  exact fun H locs ls hl hP hS => lv_sipush K.ex K.cd hd hv (k H locs ls hl hP hS)
theorem g_lconst (K : Kx L X Γ own b nL d ret) {pn : Nat} (hp : pc + 1 = pn) {n : Fin 2} {v : Int64} (hv : Int64.ofNat (n : Nat) = v) (hd : decode b pc = .ok (.lconst n, 1)) (k : G L X Γ nL Q pn lv (.long v :: st) M) : G L X Γ nL Q pc lv st M := by
  subst hp
  exact fun H locs ls hl hP hS => lv_lconst K.ex K.cd hd hv (k H locs ls hl hP hS)
theorem g_ldc (K : Kx L X Γ own b nL d ret) {pn : Nat} (hp : pc + 2 = pn) {idx : Nat} {v : Int32} (hw : Cond.constant own idx v ∈ gt) (hd : decode b pc = .ok (.ldc idx, 2)) (k : G L X Γ nL Q pn lv (.int v :: st) M) : G L X Γ nL Q pc lv st M := by
  subst hp
  exact fun H locs ls hl hP hS => lv_ldc K.ex K.cd K.ow (K.ts _ hw) hd (k H locs ls hl hP hS)
theorem g_ldcw (K : Kx L X Γ own b nL d ret) {pn : Nat} (hp : pc + 3 = pn) {idx : Nat} {v : Int32} (hw : Cond.constant own idx v ∈ gt) (hd : decode b pc = .ok (.ldc_w idx, 3)) (k : G L X Γ nL Q pn lv (.int v :: st) M) : G L X Γ nL Q pc lv st M := by
  subst hp
  exact fun H locs ls hl hP hS => lv_ldcw K.ex K.cd K.ow (K.ts _ hw) hd (k H locs ls hl hP hS)
theorem g_ldc2 (K : Kx L X Γ own b nL d ret) {pn : Nat} (hp : pc + 3 = pn) {idx : Nat} {v : Int64} (hw : Cond.constantLong own idx v ∈ gt) (hd : decode b pc = .ok (.ldc2_w idx, 3)) (k : G L X Γ nL Q pn lv (.long v :: st) M) : G L X Γ nL Q pc lv st M := by
  subst hp
  exact fun H locs ls hl hP hS => lv_ldc2 K.ex K.cd K.ow (K.ts _ hw) hd (k H locs ls hl hP hS)
theorem g_iload_n (K : Kx L X Γ own b nL d ret) {pn : Nat} (hp : pc + 1 = pn) {kf : Fin 4} {x : Int32} (q : Nat) (hq : lv[q]? = some ((kf : Nat), .int x)) (hd : decode b pc = .ok (.iload_n kf, 1)) (k : G L X Γ nL Q pn lv (.int x :: st) M) : G L X Γ nL Q pc lv st M := by
  subst hp
  exact fun H locs ls hl hP hS => lv_iload_n K.ex K.cd hd rfl (lv_at hl q hq) (k H locs ls hl hP hS)
theorem g_iload (K : Kx L X Γ own b nL d ret) {pn : Nat} (hp : pc + 2 = pn) {i : Nat} {x : Int32} (q : Nat) (hq : lv[q]? = some (i, .int x)) (hd : decode b pc = .ok (.iload i, 2)) (k : G L X Γ nL Q pn lv (.int x :: st) M) : G L X Γ nL Q pc lv st M := by
  subst hp
  exact fun H locs ls hl hP hS => lv_iload K.ex K.cd hd (lv_at hl q hq) (k H locs ls hl hP hS)
theorem g_lload_n (K : Kx L X Γ own b nL d ret) {pn : Nat} (hp : pc + 1 = pn) {kf : Fin 4} {x : Int64} (q : Nat) (hq : lv[q]? = some ((kf : Nat), .long x)) (hd : decode b pc = .ok (.lload_n kf, 1)) (k : G L X Γ nL Q pn lv (.long x :: st) M) : G L X Γ nL Q pc lv st M := by
  subst hp
  exact fun H locs ls hl hP hS => lv_lload_n K.ex K.cd hd rfl (lv_at hl q hq) (k H locs ls hl hP hS)
theorem g_lload (K : Kx L X Γ own b nL d ret) {pn : Nat} (hp : pc + 2 = pn) {i : Nat} {x : Int64} (q : Nat) (hq : lv[q]? = some (i, .long x)) (hd : decode b pc = .ok (.lload i, 2)) (k : G L X Γ nL Q pn lv (.long x :: st) M) : G L X Γ nL Q pc lv st M := by
  subst hp
  exact fun H locs ls hl hP hS => lv_lload K.ex K.cd hd (lv_at hl q hq) (k H locs ls hl hP hS)
theorem g_aload_n (K : Kx L X Γ own b nL d ret) {pn : Nat} (hp : pc + 1 = pn) {kf : Fin 4} {x : Nat} (q : Nat) (hq : lv[q]? = some ((kf : Nat), .ref x)) (hd : decode b pc = .ok (.aload_n kf, 1)) (k : G L X Γ nL Q pn lv (.ref x :: st) M) : G L X Γ nL Q pc lv st M := by
  subst hp
  exact fun H locs ls hl hP hS => lv_aload_n K.ex K.cd hd rfl (lv_at hl q hq) (k H locs ls hl hP hS)
theorem g_aload (K : Kx L X Γ own b nL d ret) {pn : Nat} (hp : pc + 2 = pn) {i : Nat} {x : Nat} (q : Nat) (hq : lv[q]? = some (i, .ref x)) (hd : decode b pc = .ok (.aload i, 2)) (k : G L X Γ nL Q pn lv (.ref x :: st) M) : G L X Γ nL Q pc lv st M := by
  subst hp
  exact fun H locs ls hl hP hS => lv_aload K.ex K.cd hd (lv_at hl q hq) (k H locs ls hl hP hS)
theorem g_istore_n (K : Kx L X Γ own b nL d ret) {pn : Nat} (hp : pc + 1 = pn) {kf : Fin 4} {i : Nat} {x : Int32} {lv' : List (Nat × Value)} (hd : decode b pc = .ok (.istore_n kf, 1)) (hi : (kf : Nat) = i) (hn : i < nL) (hlv : st1 i (.int x) lv = lv') (k : G L X Γ nL Q pn lv' st M) : G L X Γ nL Q pc lv (.int x :: st) M := by
  subst hp
  exact fun H locs ls hl hP hS => lv_istore_n K.ex K.cd hd hi hl hn hlv (fun ls' hl' => k H locs ls' hl' hP hS)
theorem g_istore (K : Kx L X Γ own b nL d ret) {pn : Nat} (hp : pc + 2 = pn) {i : Nat} {x : Int32} {lv' : List (Nat × Value)} (hd : decode b pc = .ok (.istore i, 2)) (hn : i < nL) (hlv : st1 i (.int x) lv = lv') (k : G L X Γ nL Q pn lv' st M) : G L X Γ nL Q pc lv (.int x :: st) M := by
  subst hp
  exact fun H locs ls hl hP hS => lv_istore K.ex K.cd hd hl hn hlv (fun ls' hl' => k H locs ls' hl' hP hS)
theorem g_lstore_n (K : Kx L X Γ own b nL d ret) {pn : Nat} (hp : pc + 1 = pn) {kf : Fin 4} {i : Nat} {x : Int64} {lv' : List (Nat × Value)} (hd : decode b pc = .ok (.lstore_n kf, 1)) (hi : (kf : Nat) = i) (hn : i + 1 < nL) (hlv : st2 i (.long x) lv = lv') (k : G L X Γ nL Q pn lv' st M) : G L X Γ nL Q pc lv (.long x :: st) M := by
  subst hp
  exact fun H locs ls hl hP hS => lv_lstore_n K.ex K.cd hd hi hl hn hlv (fun ls' hl' => k H locs ls' hl' hP hS)
theorem g_lstore (K : Kx L X Γ own b nL d ret) {pn : Nat} (hp : pc + 2 = pn) {i : Nat} {x : Int64} {lv' : List (Nat × Value)} (hd : decode b pc = .ok (.lstore i, 2)) (hn : i + 1 < nL) (hlv : st2 i (.long x) lv = lv') (k : G L X Γ nL Q pn lv' st M) : G L X Γ nL Q pc lv (.long x :: st) M := by
  subst hp
  exact fun H locs ls hl hP hS => lv_lstore K.ex K.cd hd hl hn hlv (fun ls' hl' => k H locs ls' hl' hP hS)
theorem g_astore_n (K : Kx L X Γ own b nL d ret) {pn : Nat} (hp : pc + 1 = pn) {kf : Fin 4} {i : Nat} {x : Nat} {lv' : List (Nat × Value)} (hd : decode b pc = .ok (.astore_n kf, 1)) (hi : (kf : Nat) = i) (hn : i < nL) (hlv : st1 i (.ref x) lv = lv') (k : G L X Γ nL Q pn lv' st M) : G L X Γ nL Q pc lv (.ref x :: st) M := by
  subst hp
  exact fun H locs ls hl hP hS => lv_astore_n K.ex K.cd hd hi hl hn hlv (fun ls' hl' => k H locs ls' hl' hP hS)
theorem g_astore (K : Kx L X Γ own b nL d ret) {pn : Nat} (hp : pc + 2 = pn) {i : Nat} {x : Nat} {lv' : List (Nat × Value)} (hd : decode b pc = .ok (.astore i, 2)) (hn : i < nL) (hlv : st1 i (.ref x) lv = lv') (k : G L X Γ nL Q pn lv' st M) : G L X Γ nL Q pc lv (.ref x :: st) M := by
  subst hp
  exact fun H locs ls hl hP hS => lv_astore K.ex K.cd hd hl hn hlv (fun ls' hl' => k H locs ls' hl' hP hS)
theorem g_iinc (K : Kx L X Γ own b nL d ret) {pn : Nat} (hp : pc + 3 = pn) {i : Nat} {n : Int} {x v mm : Int32} {lv' : List (Nat × Value)} (q : Nat) (hq : lv[q]? = some (i, .int x)) (hm : Int32.ofInt n = mm) (hv : x + mm = v) (hd : decode b pc = .ok (.iinc i n, 3)) (hn : i < nL) (hlv : st1 i (.int v) lv = lv') (k : G L X Γ nL Q pn lv' st M) : G L X Γ nL Q pc lv st M := by
  subst hp
  exact fun H locs ls hl hP hS => lv_iinc K.ex K.cd hd hl hq (by rw [hm]; exact hv) hn hlv (fun ls' hl' => k H locs ls' hl' hP hS)
theorem g_sub {lv' : List (Nat × Value)} (ks : List Nat) (hlv : lv_pick lv ks = lv') (k : G L X Γ nL Q pc lv' st M) : G L X Γ nL Q pc lv st M :=
  fun H locs ls hl hP hS => k H locs ls (lv_sub hl ks hlv) hP hS
theorem g_aload_nN (K : Kx L X Γ own b nL d ret) {pn : Nat} (hp : pc + 1 = pn) {kf : Fin 4} (q : Nat) (hq : lv[q]? = some ((kf : Nat), .null)) (hd : decode b pc = .ok (.aload_n kf, 1)) (k : G L X Γ nL Q pn lv (.null :: st) M) : G L X Γ nL Q pc lv st M := by
  subst hp
  exact fun H locs ls hl hP hS => lv_aload_nN K.ex K.cd hd rfl (lv_at hl q hq) (k H locs ls hl hP hS)
theorem g_aloadN (K : Kx L X Γ own b nL d ret) {pn : Nat} (hp : pc + 2 = pn) {i : Nat} (q : Nat) (hq : lv[q]? = some (i, .null)) (hd : decode b pc = .ok (.aload i, 2)) (k : G L X Γ nL Q pn lv (.null :: st) M) : G L X Γ nL Q pc lv st M := by
  subst hp
  exact fun H locs ls hl hP hS => lv_aloadN K.ex K.cd hd (lv_at hl q hq) (k H locs ls hl hP hS)
theorem g_astore_nN (K : Kx L X Γ own b nL d ret) {pn : Nat} (hp : pc + 1 = pn) {kf : Fin 4} {i : Nat} {lv' : List (Nat × Value)} (hd : decode b pc = .ok (.astore_n kf, 1)) (hi : (kf : Nat) = i) (hn : i < nL) (hlv : st1 i .null lv = lv') (k : G L X Γ nL Q pn lv' st M) : G L X Γ nL Q pc lv (.null :: st) M := by
  subst hp
  exact fun H locs ls hl hP hS => lv_astore_nN K.ex K.cd hd hi hl hn hlv (fun ls' hl' => k H locs ls' hl' hP hS)
theorem g_astoreN (K : Kx L X Γ own b nL d ret) {pn : Nat} (hp : pc + 2 = pn) {i : Nat} {lv' : List (Nat × Value)} (hd : decode b pc = .ok (.astore i, 2)) (hn : i < nL) (hlv : st1 i .null lv = lv') (k : G L X Γ nL Q pn lv' st M) : G L X Γ nL Q pc lv (.null :: st) M := by
  subst hp
  exact fun H locs ls hl hP hS => lv_astoreN K.ex K.cd hd hl hn hlv (fun ls' hl' => k H locs ls' hl' hP hS)
theorem g_nmr {ρ : Type} {res : ρ} {e : Nat} {f : Nat → Option ρ} (h : bnd e f = some res) (P : Nat → Prop) (hp : P e) (k : ∀ t : Nat, P t → f t = some res → G L X Γ nL Q pc lv (.ref (X.2.2.2.1 t) :: st) M) : G L X Γ nL Q pc lv (.ref (X.2.2.2.1 e) :: st) M := k e hp h
theorem g_nmi {ρ : Type} {res : ρ} {e : Int32} {f : Int32 → Option ρ} (h : bnd e f = some res) (k : ∀ v : Int32, f v = some res → G L X Γ nL Q pc lv (.int v :: st) M) : G L X Γ nL Q pc lv (.int e :: st) M := k e h
theorem g_nml {ρ : Type} {res : ρ} {e : Int64} {f : Int64 → Option ρ} (h : bnd e f = some res) (k : ∀ v : Int64, f v = some res → G L X Γ nL Q pc lv (.long v :: st) M) : G L X Γ nL Q pc lv (.long e :: st) M := k e h
theorem g_iadd (K : Kx L X Γ own b nL d ret) {pn : Nat} (hp : pc + 1 = pn) {x y : Int32}  (hd : decode b pc = .ok (.iadd, 1)) (k : G L X Γ nL Q pn lv (.int (x + y) :: st) M) : G L X Γ nL Q pc lv (.int y :: .int x :: st) M := by
  subst hp
  exact fun H locs ls hl hP hS => lv_iadd K.ex K.cd hd  (k H locs ls hl hP hS)
theorem g_isub (K : Kx L X Γ own b nL d ret) {pn : Nat} (hp : pc + 1 = pn) {x y : Int32}  (hd : decode b pc = .ok (.isub, 1)) (k : G L X Γ nL Q pn lv (.int (x - y) :: st) M) : G L X Γ nL Q pc lv (.int y :: .int x :: st) M := by
  subst hp
  exact fun H locs ls hl hP hS => lv_isub K.ex K.cd hd  (k H locs ls hl hP hS)
theorem g_imul (K : Kx L X Γ own b nL d ret) {pn : Nat} (hp : pc + 1 = pn) {x y : Int32}  (hd : decode b pc = .ok (.imul, 1)) (k : G L X Γ nL Q pn lv (.int (x * y) :: st) M) : G L X Γ nL Q pc lv (.int y :: .int x :: st) M := by
  subst hp
  exact fun H locs ls hl hP hS => lv_imul K.ex K.cd hd  (k H locs ls hl hP hS)
theorem g_iand (K : Kx L X Γ own b nL d ret) {pn : Nat} (hp : pc + 1 = pn) {x y : Int32}  (hd : decode b pc = .ok (.iand, 1)) (k : G L X Γ nL Q pn lv (.int (x &&& y) :: st) M) : G L X Γ nL Q pc lv (.int y :: .int x :: st) M := by
  subst hp
  exact fun H locs ls hl hP hS => lv_iand K.ex K.cd hd  (k H locs ls hl hP hS)
theorem g_ior (K : Kx L X Γ own b nL d ret) {pn : Nat} (hp : pc + 1 = pn) {x y : Int32}  (hd : decode b pc = .ok (.ior, 1)) (k : G L X Γ nL Q pn lv (.int (x ||| y) :: st) M) : G L X Γ nL Q pc lv (.int y :: .int x :: st) M := by
  subst hp
  exact fun H locs ls hl hP hS => lv_ior K.ex K.cd hd  (k H locs ls hl hP hS)
theorem g_ishl (K : Kx L X Γ own b nL d ret) {pn : Nat} (hp : pc + 1 = pn) {x y : Int32}  (hd : decode b pc = .ok (.ishl, 1)) (k : G L X Γ nL Q pn lv (.int (x <<< (y &&& 31)) :: st) M) : G L X Γ nL Q pc lv (.int y :: .int x :: st) M := by
  subst hp
  exact fun H locs ls hl hP hS => lv_ishl K.ex K.cd hd  (k H locs ls hl hP hS)
theorem g_ishr (K : Kx L X Γ own b nL d ret) {pn : Nat} (hp : pc + 1 = pn) {x y : Int32}  (hd : decode b pc = .ok (.ishr, 1)) (k : G L X Γ nL Q pn lv (.int (x >>> (y &&& 31)) :: st) M) : G L X Γ nL Q pc lv (.int y :: .int x :: st) M := by
  subst hp
  exact fun H locs ls hl hP hS => lv_ishr K.ex K.cd hd  (k H locs ls hl hP hS)
theorem g_ladd (K : Kx L X Γ own b nL d ret) {pn : Nat} (hp : pc + 1 = pn) {x y : Int64}  (hd : decode b pc = .ok (.ladd, 1)) (k : G L X Γ nL Q pn lv (.long (x + y) :: st) M) : G L X Γ nL Q pc lv (.long y :: .long x :: st) M := by
  subst hp
  exact fun H locs ls hl hP hS => lv_ladd K.ex K.cd hd  (k H locs ls hl hP hS)
theorem g_lsub (K : Kx L X Γ own b nL d ret) {pn : Nat} (hp : pc + 1 = pn) {x y : Int64}  (hd : decode b pc = .ok (.lsub, 1)) (k : G L X Γ nL Q pn lv (.long (x - y) :: st) M) : G L X Γ nL Q pc lv (.long y :: .long x :: st) M := by
  subst hp
  exact fun H locs ls hl hP hS => lv_lsub K.ex K.cd hd  (k H locs ls hl hP hS)
theorem g_lmul (K : Kx L X Γ own b nL d ret) {pn : Nat} (hp : pc + 1 = pn) {x y : Int64}  (hd : decode b pc = .ok (.lmul, 1)) (k : G L X Γ nL Q pn lv (.long (x * y) :: st) M) : G L X Γ nL Q pc lv (.long y :: .long x :: st) M := by
  subst hp
  exact fun H locs ls hl hP hS => lv_lmul K.ex K.cd hd  (k H locs ls hl hP hS)
theorem g_lor (K : Kx L X Γ own b nL d ret) {pn : Nat} (hp : pc + 1 = pn) {x y : Int64}  (hd : decode b pc = .ok (.lor, 1)) (k : G L X Γ nL Q pn lv (.long (x ||| y) :: st) M) : G L X Γ nL Q pc lv (.long y :: .long x :: st) M := by
  subst hp
  exact fun H locs ls hl hP hS => lv_lor K.ex K.cd hd  (k H locs ls hl hP hS)
theorem g_ineg (K : Kx L X Γ own b nL d ret) {pn : Nat} (hp : pc + 1 = pn) {x : Int32}  (hd : decode b pc = .ok (.ineg, 1)) (k : G L X Γ nL Q pn lv (.int (-x) :: st) M) : G L X Γ nL Q pc lv (.int x :: st) M := by
  subst hp
  exact fun H locs ls hl hP hS => lv_ineg K.ex K.cd hd  (k H locs ls hl hP hS)
theorem g_idiv (K : Kx L X Γ own b nL d ret) {pn : Nat} (hp : pc + 1 = pn) {x y : Int32} (hy : ¬ y = 0) (hd : decode b pc = .ok (.idiv, 1)) (k : G L X Γ nL Q pn lv (.int (x / y) :: st) M) : G L X Γ nL Q pc lv (.int y :: .int x :: st) M := by
  subst hp
  exact fun H locs ls hl hP hS => lv_idiv K.ex K.cd hd hy (k H locs ls hl hP hS)
theorem g_irem (K : Kx L X Γ own b nL d ret) {pn : Nat} (hp : pc + 1 = pn) {x y : Int32} (hy : ¬ y = 0) (hd : decode b pc = .ok (.irem, 1)) (k : G L X Γ nL Q pn lv (.int (x - x / y * y) :: st) M) : G L X Γ nL Q pc lv (.int y :: .int x :: st) M := by
  subst hp
  exact fun H locs ls hl hP hS => lv_irem K.ex K.cd hd hy (k H locs ls hl hP hS)
theorem g_ldiv (K : Kx L X Γ own b nL d ret) {pn : Nat} (hp : pc + 1 = pn) {x y : Int64} (hy : ¬ y = 0) (hd : decode b pc = .ok (.ldiv, 1)) (k : G L X Γ nL Q pn lv (.long (x / y) :: st) M) : G L X Γ nL Q pc lv (.long y :: .long x :: st) M := by
  subst hp
  exact fun H locs ls hl hP hS => lv_ldiv K.ex K.cd hd hy (k H locs ls hl hP hS)
theorem g_lrem (K : Kx L X Γ own b nL d ret) {pn : Nat} (hp : pc + 1 = pn) {x y : Int64} (hy : ¬ y = 0) (hd : decode b pc = .ok (.lrem, 1)) (k : G L X Γ nL Q pn lv (.long (x - x / y * y) :: st) M) : G L X Γ nL Q pc lv (.long y :: .long x :: st) M := by
  subst hp
  exact fun H locs ls hl hP hS => lv_lrem K.ex K.cd hd hy (k H locs ls hl hP hS)
theorem g_i2l (K : Kx L X Γ own b nL d ret) {pn : Nat} (hp : pc + 1 = pn) {x : Int32} (hd : decode b pc = .ok (.i2l, 1)) (k : G L X Γ nL Q pn lv (.long x.toInt64 :: st) M) : G L X Γ nL Q pc lv (.int x :: st) M := by
  subst hp
  exact fun H locs ls hl hP hS => lv_i2l K.ex K.cd hd rfl (k H locs ls hl hP hS)
theorem g_l2i (K : Kx L X Γ own b nL d ret) {pn : Nat} (hp : pc + 1 = pn) {x : Int64} (hd : decode b pc = .ok (.l2i, 1)) (k : G L X Γ nL Q pn lv (.int x.toInt32 :: st) M) : G L X Γ nL Q pc lv (.long x :: st) M := by
  subst hp
  exact fun H locs ls hl hP hS => lv_l2i K.ex K.cd hd rfl (k H locs ls hl hP hS)
theorem g_i2b (K : Kx L X Γ own b nL d ret) {pn : Nat} (hp : pc + 1 = pn) {x : Int32} (hd : decode b pc = .ok (.i2b, 1)) (k : G L X Γ nL Q pn lv (.int x.toInt8.toInt32 :: st) M) : G L X Γ nL Q pc lv (.int x :: st) M := by
  subst hp
  exact fun H locs ls hl hP hS => lv_i2b K.ex K.cd hd rfl (k H locs ls hl hP hS)
theorem g_i2s (K : Kx L X Γ own b nL d ret) {pn : Nat} (hp : pc + 1 = pn) {x : Int32} (hd : decode b pc = .ok (.i2s, 1)) (k : G L X Γ nL Q pn lv (.int x.toInt16.toInt32 :: st) M) : G L X Γ nL Q pc lv (.int x :: st) M := by
  subst hp
  exact fun H locs ls hl hP hS => lv_i2s K.ex K.cd hd rfl (k H locs ls hl hP hS)
theorem g_i2c (K : Kx L X Γ own b nL d ret) {pn : Nat} (hp : pc + 1 = pn) {x : Int32} (hd : decode b pc = .ok (.i2c, 1)) (k : G L X Γ nL Q pn lv (.int (x.toUInt32 % 65536).toInt32 :: st) M) : G L X Γ nL Q pc lv (.int x :: st) M := by
  subst hp
  exact fun H locs ls hl hP hS => lv_i2c K.ex K.cd hd rfl (k H locs ls hl hP hS)
theorem g_iushr (K : Kx L X Γ own b nL d ret) {pn : Nat} (hp : pc + 1 = pn) {x y : Int32} (hd : decode b pc = .ok (.iushr, 1)) (k : G L X Γ nL Q pn lv (.int (x.toUInt32 >>> (y.toUInt32 &&& Int32.toUInt32 31)).toInt32 :: st) M) : G L X Γ nL Q pc lv (.int y :: .int x :: st) M := by
  subst hp
  exact fun H locs ls hl hP hS => lv_iushr K.ex K.cd hd rfl (k H locs ls hl hP hS)
theorem g_lshl (K : Kx L X Γ own b nL d ret) {pn : Nat} (hp : pc + 1 = pn) {x : Int64} {y : Int32} (hd : decode b pc = .ok (.lshl, 1)) (k : G L X Γ nL Q pn lv (.long (x <<< (y.toInt64 &&& 63)) :: st) M) : G L X Γ nL Q pc lv (.int y :: .long x :: st) M := by
  subst hp
  exact fun H locs ls hl hP hS => lv_lshl K.ex K.cd hd rfl (k H locs ls hl hP hS)
theorem g_lcmp (K : Kx L X Γ own b nL d ret) {pn : Nat} (hp : pc + 1 = pn) {x y : Int64} (hd : decode b pc = .ok (.lcmp, 1)) (k : G L X Γ nL Q pn lv (.int (lg_cmp x y) :: st) M) : G L X Γ nL Q pc lv (.long y :: .long x :: st) M := by
  subst hp
  exact fun H locs ls hl hP hS => W.lcmp K.ex K.cd hd (k H locs ls hl hP hS)
theorem g_dup (K : Kx L X Γ own b nL d ret) {pn : Nat} (hp : pc + 1 = pn) {v : Value} (hv : v.category = 1) (hd : decode b pc = .ok (.dup, 1)) (k : G L X Γ nL Q pn lv (v :: v :: st) M) : G L X Γ nL Q pc lv (v :: st) M := by
  subst hp
  exact fun H locs ls hl hP hS => lv_dup K.ex K.cd hd hv (k H locs ls hl hP hS)
theorem g_pop (K : Kx L X Γ own b nL d ret) {pn : Nat} (hp : pc + 1 = pn) {v : Value} (hv : v.category = 1) (hd : decode b pc = .ok (.pop, 1)) (k : G L X Γ nL Q pn lv st M) : G L X Γ nL Q pc lv (v :: st) M := by
  subst hp
  exact fun H locs ls hl hP hS => lv_pop K.ex K.cd hd hv (k H locs ls hl hP hS)
theorem g_goto (K : Kx L X Γ own b nL d ret) {off : Int} {tgt : Nat} (ht : (pc : Int) + off = (tgt : Int)) (hd : decode b pc = .ok (.goto off, 3)) (k : G L X Γ nL Q tgt lv st M) : G L X Γ nL Q pc lv st M :=
  fun H locs ls hl hP hS => lv_goto K.ex K.cd hd ht (k H locs ls hl hP hS)
theorem g_icmp_eq (K : Kx L X Γ own b nL d ret) {pn : Nat} (hp : pc + 3 = pn) {x y : Int32} {off : Int} {tgt : Nat} {ρ : Type} {res : ρ} {A B : Option ρ} (ht : (pc : Int) + off = (tgt : Int)) (hd : decode b pc = .ok (.if_icmp .eq off, 3)) (h : (if x = y then A else B) = some res) (kt : A = some res → G L X Γ nL Q tgt lv st M) (kf : B = some res → G L X Γ nL Q pn lv st M) : G L X Γ nL Q pc lv (.int y :: .int x :: st) M := by
  subst hp
  exact fun H locs ls hl hP hS => lv_icmp_eq K.ex K.cd hd ht (fun z => kt ((ite_e h).1 z) H locs ls hl hP hS) (fun z => kf ((ite_e h).2 z) H locs ls hl hP hS)
theorem g_icmp_ne (K : Kx L X Γ own b nL d ret) {pn : Nat} (hp : pc + 3 = pn) {x y : Int32} {off : Int} {tgt : Nat} {ρ : Type} {res : ρ} {A B : Option ρ} (ht : (pc : Int) + off = (tgt : Int)) (hd : decode b pc = .ok (.if_icmp .ne off, 3)) (h : (if x = y then B else A) = some res) (kt : A = some res → G L X Γ nL Q tgt lv st M) (kf : B = some res → G L X Γ nL Q pn lv st M) : G L X Γ nL Q pc lv (.int y :: .int x :: st) M := by
  subst hp
  exact fun H locs ls hl hP hS => lv_icmp_ne K.ex K.cd hd ht (fun z => kt ((ite_e h).2 z) H locs ls hl hP hS) (fun z => kf ((ite_e h).1 z) H locs ls hl hP hS)
theorem g_icmp_lt (K : Kx L X Γ own b nL d ret) {pn : Nat} (hp : pc + 3 = pn) {x y : Int32} {off : Int} {tgt : Nat} {ρ : Type} {res : ρ} {A B : Option ρ} (ht : (pc : Int) + off = (tgt : Int)) (hd : decode b pc = .ok (.if_icmp .lt off, 3)) (h : (if x < y then A else B) = some res) (kt : A = some res → G L X Γ nL Q tgt lv st M) (kf : B = some res → G L X Γ nL Q pn lv st M) : G L X Γ nL Q pc lv (.int y :: .int x :: st) M := by
  subst hp
  exact fun H locs ls hl hP hS => lv_icmp_lt K.ex K.cd hd ht (fun z => kt ((ite_e h).1 z) H locs ls hl hP hS) (fun z => kf ((ite_e h).2 z) H locs ls hl hP hS)
theorem g_icmp_ge (K : Kx L X Γ own b nL d ret) {pn : Nat} (hp : pc + 3 = pn) {x y : Int32} {off : Int} {tgt : Nat} {ρ : Type} {res : ρ} {A B : Option ρ} (ht : (pc : Int) + off = (tgt : Int)) (hd : decode b pc = .ok (.if_icmp .ge off, 3)) (h : (if y ≤ x then A else B) = some res) (kt : A = some res → G L X Γ nL Q tgt lv st M) (kf : B = some res → G L X Γ nL Q pn lv st M) : G L X Γ nL Q pc lv (.int y :: .int x :: st) M := by
  subst hp
  exact fun H locs ls hl hP hS => lv_icmp_ge K.ex K.cd hd ht (fun z => kt ((ite_e h).1 z) H locs ls hl hP hS) (fun z => kf ((ite_e h).2 z) H locs ls hl hP hS)
theorem g_icmp_gt (K : Kx L X Γ own b nL d ret) {pn : Nat} (hp : pc + 3 = pn) {x y : Int32} {off : Int} {tgt : Nat} {ρ : Type} {res : ρ} {A B : Option ρ} (ht : (pc : Int) + off = (tgt : Int)) (hd : decode b pc = .ok (.if_icmp .gt off, 3)) (h : (if y < x then A else B) = some res) (kt : A = some res → G L X Γ nL Q tgt lv st M) (kf : B = some res → G L X Γ nL Q pn lv st M) : G L X Γ nL Q pc lv (.int y :: .int x :: st) M := by
  subst hp
  exact fun H locs ls hl hP hS => lv_icmp_gt K.ex K.cd hd ht (fun z => kt ((ite_e h).1 z) H locs ls hl hP hS) (fun z => kf ((ite_e h).2 z) H locs ls hl hP hS)
theorem g_icmp_le (K : Kx L X Γ own b nL d ret) {pn : Nat} (hp : pc + 3 = pn) {x y : Int32} {off : Int} {tgt : Nat} {ρ : Type} {res : ρ} {A B : Option ρ} (ht : (pc : Int) + off = (tgt : Int)) (hd : decode b pc = .ok (.if_icmp .le off, 3)) (h : (if x ≤ y then A else B) = some res) (kt : A = some res → G L X Γ nL Q tgt lv st M) (kf : B = some res → G L X Γ nL Q pn lv st M) : G L X Γ nL Q pc lv (.int y :: .int x :: st) M := by
  subst hp
  exact fun H locs ls hl hP hS => lv_icmp_le K.ex K.cd hd ht (fun z => kt ((ite_e h).1 z) H locs ls hl hP hS) (fun z => kf ((ite_e h).2 z) H locs ls hl hP hS)
theorem g_if_eq (K : Kx L X Γ own b nL d ret) {pn : Nat} (hp : pc + 3 = pn) {x : Int32} {off : Int} {tgt : Nat} {ρ : Type} {res : ρ} {A B : Option ρ} (ht : (pc : Int) + off = (tgt : Int)) (hd : decode b pc = .ok (.ifCond .eq off, 3)) (h : (if x = 0 then A else B) = some res) (kt : A = some res → G L X Γ nL Q tgt lv st M) (kf : B = some res → G L X Γ nL Q pn lv st M) : G L X Γ nL Q pc lv (.int x :: st) M := by
  subst hp
  exact fun H locs ls hl hP hS => lv_if_eq K.ex K.cd hd ht (fun z => kt ((ite_e h).1 z) H locs ls hl hP hS) (fun z => kf ((ite_e h).2 z) H locs ls hl hP hS)
theorem g_if_ne (K : Kx L X Γ own b nL d ret) {pn : Nat} (hp : pc + 3 = pn) {x : Int32} {off : Int} {tgt : Nat} {ρ : Type} {res : ρ} {A B : Option ρ} (ht : (pc : Int) + off = (tgt : Int)) (hd : decode b pc = .ok (.ifCond .ne off, 3)) (h : (if x = 0 then B else A) = some res) (kt : A = some res → G L X Γ nL Q tgt lv st M) (kf : B = some res → G L X Γ nL Q pn lv st M) : G L X Γ nL Q pc lv (.int x :: st) M := by
  subst hp
  exact fun H locs ls hl hP hS => lv_if_ne K.ex K.cd hd ht (fun z => kt ((ite_e h).2 z) H locs ls hl hP hS) (fun z => kf ((ite_e h).1 z) H locs ls hl hP hS)
theorem g_if_lt (K : Kx L X Γ own b nL d ret) {pn : Nat} (hp : pc + 3 = pn) {x : Int32} {off : Int} {tgt : Nat} {ρ : Type} {res : ρ} {A B : Option ρ} (ht : (pc : Int) + off = (tgt : Int)) (hd : decode b pc = .ok (.ifCond .lt off, 3)) (h : (if x < 0 then A else B) = some res) (kt : A = some res → G L X Γ nL Q tgt lv st M) (kf : B = some res → G L X Γ nL Q pn lv st M) : G L X Γ nL Q pc lv (.int x :: st) M := by
  subst hp
  exact fun H locs ls hl hP hS => lv_if_lt K.ex K.cd hd ht (fun z => kt ((ite_e h).1 z) H locs ls hl hP hS) (fun z => kf ((ite_e h).2 z) H locs ls hl hP hS)
theorem g_if_ge (K : Kx L X Γ own b nL d ret) {pn : Nat} (hp : pc + 3 = pn) {x : Int32} {off : Int} {tgt : Nat} {ρ : Type} {res : ρ} {A B : Option ρ} (ht : (pc : Int) + off = (tgt : Int)) (hd : decode b pc = .ok (.ifCond .ge off, 3)) (h : (if 0 ≤ x then A else B) = some res) (kt : A = some res → G L X Γ nL Q tgt lv st M) (kf : B = some res → G L X Γ nL Q pn lv st M) : G L X Γ nL Q pc lv (.int x :: st) M := by
  subst hp
  exact fun H locs ls hl hP hS => lv_if_ge K.ex K.cd hd ht (fun z => kt ((ite_e h).1 z) H locs ls hl hP hS) (fun z => kf ((ite_e h).2 z) H locs ls hl hP hS)
theorem g_if_gt (K : Kx L X Γ own b nL d ret) {pn : Nat} (hp : pc + 3 = pn) {x : Int32} {off : Int} {tgt : Nat} {ρ : Type} {res : ρ} {A B : Option ρ} (ht : (pc : Int) + off = (tgt : Int)) (hd : decode b pc = .ok (.ifCond .gt off, 3)) (h : (if 0 < x then A else B) = some res) (kt : A = some res → G L X Γ nL Q tgt lv st M) (kf : B = some res → G L X Γ nL Q pn lv st M) : G L X Γ nL Q pc lv (.int x :: st) M := by
  subst hp
  exact fun H locs ls hl hP hS => lv_if_gt K.ex K.cd hd ht (fun z => kt ((ite_e h).1 z) H locs ls hl hP hS) (fun z => kf ((ite_e h).2 z) H locs ls hl hP hS)
theorem g_if_le (K : Kx L X Γ own b nL d ret) {pn : Nat} (hp : pc + 3 = pn) {x : Int32} {off : Int} {tgt : Nat} {ρ : Type} {res : ρ} {A B : Option ρ} (ht : (pc : Int) + off = (tgt : Int)) (hd : decode b pc = .ok (.ifCond .le off, 3)) (h : (if x ≤ 0 then A else B) = some res) (kt : A = some res → G L X Γ nL Q tgt lv st M) (kf : B = some res → G L X Γ nL Q pn lv st M) : G L X Γ nL Q pc lv (.int x :: st) M := by
  subst hp
  exact fun H locs ls hl hP hS => lv_if_le K.ex K.cd hd ht (fun z => kt ((ite_e h).1 z) H locs ls hl hP hS) (fun z => kf ((ite_e h).2 z) H locs ls hl hP hS)
theorem b2i_0 {z : Bool} : b2i z = 0 ↔ ¬ z = true := by cases z <;> decide
theorem g_ifB_eq (K : Kx L X Γ own b nL d ret) {pn : Nat} (hp : pc + 3 = pn) {z : Bool} {off : Int} {tgt : Nat} {ρ : Type} {res : ρ} {A B : Option ρ} (ht : (pc : Int) + off = (tgt : Int)) (hd : decode b pc = .ok (.ifCond .eq off, 3)) (h : (if z = true then B else A) = some res) (kt : A = some res → G L X Γ nL Q tgt lv st M) (kf : B = some res → G L X Γ nL Q pn lv st M) : G L X Γ nL Q pc lv (.int (b2i z) :: st) M := by
  subst hp
  exact fun H locs ls hl hP hS => lv_if_eq K.ex K.cd hd ht (fun z => kt ((ite_e h).2 (b2i_0.mp z)) H locs ls hl hP hS) (fun z => kf ((ite_e h).1 ((Decidable.not_not.mp fun w => z (b2i_0.mpr w)))) H locs ls hl hP hS)
theorem g_ifB_ne (K : Kx L X Γ own b nL d ret) {pn : Nat} (hp : pc + 3 = pn) {z : Bool} {off : Int} {tgt : Nat} {ρ : Type} {res : ρ} {A B : Option ρ} (ht : (pc : Int) + off = (tgt : Int)) (hd : decode b pc = .ok (.ifCond .ne off, 3)) (h : (if z = true then A else B) = some res) (kt : A = some res → G L X Γ nL Q tgt lv st M) (kf : B = some res → G L X Γ nL Q pn lv st M) : G L X Γ nL Q pc lv (.int (b2i z) :: st) M := by
  subst hp
  exact fun H locs ls hl hP hS => lv_if_ne K.ex K.cd hd ht (fun z => kt ((ite_e h).1 ((Decidable.not_not.mp fun w => z (b2i_0.mpr w)))) H locs ls hl hP hS) (fun z => kf ((ite_e h).2 (b2i_0.mp z)) H locs ls hl hP hS)
theorem g_ifT_eq (K : Kx L X Γ own b nL d ret) {x : Int32} {off : Int} {tgt : Nat} (ht : (pc : Int) + off = (tgt : Int)) (hd : decode b pc = .ok (.ifCond .eq off, 3)) (hc : x = 0) (kt : G L X Γ nL Q tgt lv st M) : G L X Γ nL Q pc lv (.int x :: st) M :=
  fun H locs ls hl hP hS => lv_if_eq K.ex K.cd hd ht (fun z => kt H locs ls hl hP hS) (fun z => absurd hc (by first | exact z | exact not_not_intro z))
theorem g_ifF_eq (K : Kx L X Γ own b nL d ret) {pn : Nat} (hp : pc + 3 = pn) {x : Int32} {off : Int} {tgt : Nat} (ht : (pc : Int) + off = (tgt : Int)) (hd : decode b pc = .ok (.ifCond .eq off, 3)) (hc : ¬ x = 0) (kf : G L X Γ nL Q pn lv st M) : G L X Γ nL Q pc lv (.int x :: st) M := by
  subst hp
  exact fun H locs ls hl hP hS => lv_if_eq K.ex K.cd hd ht (fun z => absurd z (by first | exact hc | exact not_not_intro hc)) (fun z => kf H locs ls hl hP hS)
theorem g_ifT_ne (K : Kx L X Γ own b nL d ret) {x : Int32} {off : Int} {tgt : Nat} (ht : (pc : Int) + off = (tgt : Int)) (hd : decode b pc = .ok (.ifCond .ne off, 3)) (hc : ¬ x = 0) (kt : G L X Γ nL Q tgt lv st M) : G L X Γ nL Q pc lv (.int x :: st) M :=
  fun H locs ls hl hP hS => lv_if_ne K.ex K.cd hd ht (fun z => kt H locs ls hl hP hS) (fun z => absurd hc (by first | exact z | exact not_not_intro z))
theorem g_ifF_ne (K : Kx L X Γ own b nL d ret) {pn : Nat} (hp : pc + 3 = pn) {x : Int32} {off : Int} {tgt : Nat} (ht : (pc : Int) + off = (tgt : Int)) (hd : decode b pc = .ok (.ifCond .ne off, 3)) (hc : x = 0) (kf : G L X Γ nL Q pn lv st M) : G L X Γ nL Q pc lv (.int x :: st) M := by
  subst hp
  exact fun H locs ls hl hP hS => lv_if_ne K.ex K.cd hd ht (fun z => absurd z (by first | exact hc | exact not_not_intro hc)) (fun z => kf H locs ls hl hP hS)
theorem g_ifT_lt (K : Kx L X Γ own b nL d ret) {x : Int32} {off : Int} {tgt : Nat} (ht : (pc : Int) + off = (tgt : Int)) (hd : decode b pc = .ok (.ifCond .lt off, 3)) (hc : x < 0) (kt : G L X Γ nL Q tgt lv st M) : G L X Γ nL Q pc lv (.int x :: st) M :=
  fun H locs ls hl hP hS => lv_if_lt K.ex K.cd hd ht (fun z => kt H locs ls hl hP hS) (fun z => absurd hc (by first | exact z | exact not_not_intro z))
theorem g_ifF_lt (K : Kx L X Γ own b nL d ret) {pn : Nat} (hp : pc + 3 = pn) {x : Int32} {off : Int} {tgt : Nat} (ht : (pc : Int) + off = (tgt : Int)) (hd : decode b pc = .ok (.ifCond .lt off, 3)) (hc : ¬ x < 0) (kf : G L X Γ nL Q pn lv st M) : G L X Γ nL Q pc lv (.int x :: st) M := by
  subst hp
  exact fun H locs ls hl hP hS => lv_if_lt K.ex K.cd hd ht (fun z => absurd z (by first | exact hc | exact not_not_intro hc)) (fun z => kf H locs ls hl hP hS)
theorem g_ifT_ge (K : Kx L X Γ own b nL d ret) {x : Int32} {off : Int} {tgt : Nat} (ht : (pc : Int) + off = (tgt : Int)) (hd : decode b pc = .ok (.ifCond .ge off, 3)) (hc : 0 ≤ x) (kt : G L X Γ nL Q tgt lv st M) : G L X Γ nL Q pc lv (.int x :: st) M :=
  fun H locs ls hl hP hS => lv_if_ge K.ex K.cd hd ht (fun z => kt H locs ls hl hP hS) (fun z => absurd hc (by first | exact z | exact not_not_intro z))
theorem g_ifF_ge (K : Kx L X Γ own b nL d ret) {pn : Nat} (hp : pc + 3 = pn) {x : Int32} {off : Int} {tgt : Nat} (ht : (pc : Int) + off = (tgt : Int)) (hd : decode b pc = .ok (.ifCond .ge off, 3)) (hc : ¬ 0 ≤ x) (kf : G L X Γ nL Q pn lv st M) : G L X Γ nL Q pc lv (.int x :: st) M := by
  subst hp
  exact fun H locs ls hl hP hS => lv_if_ge K.ex K.cd hd ht (fun z => absurd z (by first | exact hc | exact not_not_intro hc)) (fun z => kf H locs ls hl hP hS)
theorem g_ifT_gt (K : Kx L X Γ own b nL d ret) {x : Int32} {off : Int} {tgt : Nat} (ht : (pc : Int) + off = (tgt : Int)) (hd : decode b pc = .ok (.ifCond .gt off, 3)) (hc : 0 < x) (kt : G L X Γ nL Q tgt lv st M) : G L X Γ nL Q pc lv (.int x :: st) M :=
  fun H locs ls hl hP hS => lv_if_gt K.ex K.cd hd ht (fun z => kt H locs ls hl hP hS) (fun z => absurd hc (by first | exact z | exact not_not_intro z))
theorem g_ifF_gt (K : Kx L X Γ own b nL d ret) {pn : Nat} (hp : pc + 3 = pn) {x : Int32} {off : Int} {tgt : Nat} (ht : (pc : Int) + off = (tgt : Int)) (hd : decode b pc = .ok (.ifCond .gt off, 3)) (hc : ¬ 0 < x) (kf : G L X Γ nL Q pn lv st M) : G L X Γ nL Q pc lv (.int x :: st) M := by
  subst hp
  exact fun H locs ls hl hP hS => lv_if_gt K.ex K.cd hd ht (fun z => absurd z (by first | exact hc | exact not_not_intro hc)) (fun z => kf H locs ls hl hP hS)
theorem g_ifT_le (K : Kx L X Γ own b nL d ret) {x : Int32} {off : Int} {tgt : Nat} (ht : (pc : Int) + off = (tgt : Int)) (hd : decode b pc = .ok (.ifCond .le off, 3)) (hc : x ≤ 0) (kt : G L X Γ nL Q tgt lv st M) : G L X Γ nL Q pc lv (.int x :: st) M :=
  fun H locs ls hl hP hS => lv_if_le K.ex K.cd hd ht (fun z => kt H locs ls hl hP hS) (fun z => absurd hc (by first | exact z | exact not_not_intro z))
theorem g_ifF_le (K : Kx L X Γ own b nL d ret) {pn : Nat} (hp : pc + 3 = pn) {x : Int32} {off : Int} {tgt : Nat} (ht : (pc : Int) + off = (tgt : Int)) (hd : decode b pc = .ok (.ifCond .le off, 3)) (hc : ¬ x ≤ 0) (kf : G L X Γ nL Q pn lv st M) : G L X Γ nL Q pc lv (.int x :: st) M := by
  subst hp
  exact fun H locs ls hl hP hS => lv_if_le K.ex K.cd hd ht (fun z => absurd z (by first | exact hc | exact not_not_intro hc)) (fun z => kf H locs ls hl hP hS)
theorem g_ifnull (K : Kx L X Γ own b nL d ret) {pn : Nat} (hp : pc + 3 = pn) {x : Nat} {off : Int} (hd : decode b pc = .ok (.ifnull off, 3)) (k : G L X Γ nL Q pn lv st M) : G L X Γ nL Q pc lv (.ref x :: st) M := by
  subst hp
  exact fun H locs ls hl hP hS => lv_ifnull K.ex K.cd hd (k H locs ls hl hP hS)
theorem g_ifnonnull (K : Kx L X Γ own b nL d ret) {x : Nat} {off : Int} {tgt : Nat} (ht : (pc : Int) + off = (tgt : Int)) (hd : decode b pc = .ok (.ifnonnull off, 3)) (k : G L X Γ nL Q tgt lv st M) : G L X Γ nL Q pc lv (.ref x :: st) M :=
  fun H locs ls hl hP hS => lv_ifnonnull K.ex K.cd hd ht (k H locs ls hl hP hS)
theorem g_ifnullN (K : Kx L X Γ own b nL d ret)  {off : Int} {tgt : Nat} (ht : (pc : Int) + off = (tgt : Int)) (hd : decode b pc = .ok (.ifnull off, 3)) (k : G L X Γ nL Q tgt lv st M) : G L X Γ nL Q pc lv (.null :: st) M :=
  fun H locs ls hl hP hS => lv_ifnullN K.ex K.cd hd ht (k H locs ls hl hP hS)
theorem g_ifnonnullN (K : Kx L X Γ own b nL d ret) {pn : Nat} (hp : pc + 3 = pn)  {off : Int} (hd : decode b pc = .ok (.ifnonnull off, 3)) (k : G L X Γ nL Q pn lv st M) : G L X Γ nL Q pc lv (.null :: st) M := by
  subst hp
  exact fun H locs ls hl hP hS => lv_ifnonnullN K.ex K.cd hd (k H locs ls hl hP hS)
theorem g_null (K : Kx L X Γ own b nL d ret) {pn : Nat} (hp : pc + 1 = pn) (hd : decode b pc = .ok (.aconst_null, 1)) (k : G L X Γ nL Q pn lv (.null :: st) M) : G L X Γ nL Q pc lv st M := by
  subst hp
  exact fun H locs ls hl hP hS => lv_null K.ex K.cd hd (k H locs ls hl hP hS)
theorem g_tsw (K : Kx L X Γ own b nL d ret) {x v : Int32} {dflt lo hi off : Int} {offs : Array Int} {len tgt : Nat} (hx : x = v) (h1 : ¬ v.toInt < lo) (h2 : ¬ hi < v.toInt) (ho : offs[(v.toInt - lo).toNat]? = some off) (ht : (pc : Int) + off = (tgt : Int)) (hd : decode b pc = .ok (.tableswitch dflt lo hi offs, len)) (k : G L X Γ nL Q tgt lv st M) : G L X Γ nL Q pc lv (.int x :: st) M := by
  subst hx
  exact fun H locs ls hl hP hS => lv_tableIn K.ex K.cd hd h1 h2 ho ht (k H locs ls hl hP hS)
theorem g_tswD (K : Kx L X Γ own b nL d ret) {x : Int32} {dflt lo hi : Int} {offs : Array Int} {len tgt : Nat} (vs : List Int32) (hv : ∀ i : Nat, i < vs.length → (vs.getD i 0).toInt = lo + i) (hn : hi < lo + vs.length) (hx : ∀ v ∈ vs, ¬ x = v) (ht : (pc : Int) + dflt = (tgt : Int)) (hd : decode b pc = .ok (.tableswitch dflt lo hi offs, len)) (k : G L X Γ nL Q tgt lv st M) : G L X Γ nL Q pc lv (.int x :: st) M := by
  have hz : x.toInt < lo ∨ hi < x.toInt := by
    refine Decidable.byContradiction fun z => ?_
    have z1 : ¬ x.toInt < lo := fun w => z (Or.inl w)
    have z2 : ¬ hi < x.toInt := fun w => z (Or.inr w)
    have hlt : (x.toInt - lo).toNat < vs.length := by omega
    have e := hv _ hlt
    refine hx (vs.getD (x.toInt - lo).toNat 0) ?_ ?_
    · rw [List.getD_eq_getElem?_getD, List.getElem?_eq_getElem hlt]
      exact List.getElem_mem hlt
    · apply Int32.toInt_inj.mp
      rw [e]
      omega
  exact fun H locs ls hl hP hS => lv_tableOut K.ex K.cd hd hz ht (k H locs ls hl hP hS)
theorem g_lsw (K : Kx L X Γ own b nL d ret) {x : Int32} {dflt off : Int} {ps : Array (Int × Int)} {len tgt : Nat} (ho : Op.lookupswitch.offset ps.toList dflt x.toInt = off) (hp : (ps.toList.zip (ps.toList.drop 1)).all (fun (a, next) => a.1 < next.1) = true) (ht : (pc : Int) + off = (tgt : Int)) (hd : decode b pc = .ok (.lookupswitch dflt ps, len)) (k : G L X Γ nL Q tgt lv st M) : G L X Γ nL Q pc lv (.int x :: st) M :=
  fun H locs ls hl hP hS => lv_lookup K.ex K.cd hd hp ho ht (k H locs ls hl hP hS)
theorem lsw_0 (dflt k : Int) : Op.lookupswitch.offset [] dflt k = dflt := rfl
theorem lsw_t {x v : Int32} {a o : Int} {r : List (Int × Int)} {dflt : Int} (h : x = v) (ha : v.toInt = a) : Op.lookupswitch.offset ((a, o) :: r) dflt x.toInt = o := by
  subst h
  rw [lookupswitch.offset_cons, if_pos ha.symm]
theorem lsw_f {x v : Int32} {a o w : Int} {r : List (Int × Int)} {dflt : Int} (h : ¬ x = v) (ha : v.toInt = a) (k : Op.lookupswitch.offset r dflt x.toInt = w) : Op.lookupswitch.offset ((a, o) :: r) dflt x.toInt = w := by
  rw [lookupswitch.offset_cons, if_neg (fun z => h (Int32.toInt_inj.mp (by rw [ha, z]))), k]
theorem g_get (K : Kx L X Γ own b nL d ret) {pn : Nat} (hp : pc + 3 = pn) {idx ci k t cd : Nat} {sp : List Nat} {v : Value} (F : FL own idx ci k) (hc : L[t]? = some (.inl (ci, sp))) (hk : sp[k]? = some cd) (hv : fv X.2.2.2.1 (M t) k cd = v) (hd : decode b pc = .ok (.getfield idx, 3)) (kk : G L X Γ nL Q pn lv (v :: st) M) : G L X Γ nL Q pc lv (.ref (X.2.2.2.1 t) :: st) M := by
  subst hp
  obtain ⟨C, T, N, h1, h2, h3, h4⟩ := F
  subst hv
  intro H locs ls hl hP hS
  rcases h4 with h4 | ⟨host, h4⟩
  · exact va_get (D := X.2.1) (cl := vwCl) (Ts := gt) K.ex K.cd K.ts h3 K.ow K.kk hP t (wsO_at hc) h1 k h2 (K.ts _ h4) (fun _ h => h) (flds_at hk) hd (kk H locs ls hl hP hS)
  · exact va_getN (D := X.2.1) (cl := vwCl) (Ts := gt) K.ex K.cd K.ts h3 K.ow K.kk hP t (wsO_at hc) h1 k h2 (K.nw _ h4) (fun _ h => h) (flds_at hk) hd (kk H locs ls hl hP hS)
theorem g_geti (K : Kx L X Γ own b nL d ret) {pn : Nat} (hp : pc + 3 = pn) {idx ci k t : Nat} {sp : List Nat} (F : FL own idx ci k) (hc : L[t]? = some (.inl (ci, sp))) (hk : sp[k]? = some 0) (hd : decode b pc = .ok (.getfield idx, 3)) (kk : G L X Γ nL Q pn lv (.int (M t k) :: st) M) : G L X Γ nL Q pc lv (.ref (X.2.2.2.1 t) :: st) M := by
  subst hp
  exact g_get K rfl F hc hk rfl hd kk
theorem g_getl (K : Kx L X Γ own b nL d ret) {pn : Nat} (hp : pc + 3 = pn) {idx ci k t : Nat} {sp : List Nat} (F : FL own idx ci k) (hc : L[t]? = some (.inl (ci, sp))) (hk : sp[k]? = some 1) (hd : decode b pc = .ok (.getfield idx, 3)) (kk : G L X Γ nL Q pn lv (.long (M t k).toInt64 :: st) M) : G L X Γ nL Q pc lv (.ref (X.2.2.2.1 t) :: st) M := by
  subst hp
  exact g_get K rfl F hc hk rfl hd kk
theorem g_getr (K : Kx L X Γ own b nL d ret) {pn : Nat} (hp : pc + 3 = pn) {idx ci k t j : Nat} {sp : List Nat} (F : FL own idx ci k) (hc : L[t]? = some (.inl (ci, sp))) (hk : sp[k]? = some (j + 2)) (hd : decode b pc = .ok (.getfield idx, 3)) (kk : G L X Γ nL Q pn lv (.ref (X.2.2.2.1 j) :: st) M) : G L X Γ nL Q pc lv (.ref (X.2.2.2.1 t) :: st) M := by
  subst hp
  exact g_get K rfl F hc hk rfl hd kk
theorem g_put (K : Kx L X Γ own b nL d ret) {pn : Nat} (hp : pc + 3 = pn) {idx ci k t cd : Nat} {sp : List Nat} {ty : FieldType} {x : Int32} {v : Value} (F : FP own idx ci k ty) (hc : L[t]? = some (.inl (ci, sp))) (hk : sp[k]? = some cd) (hcd : cd < 2) (hv : fv X.2.2.2.1 (upd (M t) k x) k cd = v) (hn : narrow ty v = v) (hf : fits ty v = true) (hd : decode b pc = .ok (.putfield idx, 3)) (kk : G L X Γ nL Q pn lv st (wr M t k x)) : G L X Γ nL Q pc lv (v :: .ref (X.2.2.2.1 t) :: st) M := by
  subst hp
  obtain ⟨C, T, N, ty0, h1, h2, h3, h4, h5, h6, h7, h8⟩ := F
  intro H locs ls hl hP hS
  have e := wsO_put (X := X) (M := M) hc hk hv hcd
  rcases h4 with h4 | ⟨host, h4⟩
  · exact va_put (D := X.2.1) (cl := vwCl) (Ts := gt) K.ex K.cd K.ts h3 ty0 h5 h6 K.ow K.kk hP (K.ad.D M) hS t (wsO_at hc) h1 k h2 (K.ts _ h4) (fun _ h => h) h7 h8 hn hf (flds_len hk) hd (fun H1 locs1 hP1 hD1 hS1 => by
      rw [e] at hP1
      exact kk H1 locs1 ls hl hP1 hS1)
  · exact va_putN (D := X.2.1) (cl := vwCl) (Ts := gt) K.ex K.cd K.ts h3 ty0 h5 h6 K.ow K.kk hP (K.ad.D M) hS t (wsO_at hc) h1 k h2 (K.nw _ h4) (fun _ h => h) h7 h8 hn hf (flds_len hk) hd (fun H1 locs1 hP1 hD1 hS1 => by
      rw [e] at hP1
      exact kk H1 locs1 ls hl hP1 hS1)
theorem upd_at (f : Nat → Int32) (k : Nat) (x : Int32) : upd f k x k = x := by simp [upd]
theorem g_puti (K : Kx L X Γ own b nL d ret) {pn : Nat} (hp : pc + 3 = pn) {idx ci k t : Nat} {sp : List Nat} {x : Int32} {ρ : Type} {res : ρ} {f : Mem → Option ρ} (F : FP own idx ci k .int) (hc : L[t]? = some (.inl (ci, sp))) (hk : sp[k]? = some 0) (hd : decode b pc = .ok (.putfield idx, 3)) (h : bnd (wr M t k x) f = some res) (kk : ∀ M1 : Mem, f M1 = some res → G L X Γ nL Q pn lv st M1) : G L X Γ nL Q pc lv (.int x :: .ref (X.2.2.2.1 t) :: st) M := by
  subst hp
  exact g_put K rfl F hc hk (Nat.le_of_ble_eq_true rfl) (by show Value.int (upd (M t) k x k) = _; rw [upd_at]) rfl rfl hd (kk _ h)
theorem g_putz (K : Kx L X Γ own b nL d ret) {pn : Nat} (hp : pc + 3 = pn) {idx ci k t : Nat} {sp : List Nat} {x : Int32} {ρ : Type} {res : ρ} {f : Mem → Option ρ} (F : FP own idx ci k .boolean) (hc : L[t]? = some (.inl (ci, sp))) (hk : sp[k]? = some 0) (hx : narrow .boolean (.int x) = .int x) (hf : fits .boolean (.int x) = true) (hd : decode b pc = .ok (.putfield idx, 3)) (h : bnd (wr M t k x) f = some res) (kk : ∀ M1 : Mem, f M1 = some res → G L X Γ nL Q pn lv st M1) : G L X Γ nL Q pc lv (.int x :: .ref (X.2.2.2.1 t) :: st) M := by
  subst hp
  exact g_put K rfl F hc hk (Nat.le_of_ble_eq_true rfl) (by show Value.int (upd (M t) k x k) = _; rw [upd_at]) hx hf hd (kk _ h)
theorem g_putl (K : Kx L X Γ own b nL d ret) {pn : Nat} (hp : pc + 3 = pn) {idx ci k t : Nat} {sp : List Nat} {x : Int64} {ρ : Type} {res : ρ} {f : Mem → Option ρ} (F : FP own idx ci k .long) (hc : L[t]? = some (.inl (ci, sp))) (hk : sp[k]? = some 1) (hd : decode b pc = .ok (.putfield idx, 3)) (h : rq (x.toInt32.toInt64 = x) (bnd (wr M t k x.toInt32) f) = some res) (kk : ∀ M1 : Mem, f M1 = some res → G L X Γ nL Q pn lv st M1) : G L X Γ nL Q pc lv (.long x :: .ref (X.2.2.2.1 t) :: st) M := by
  subst hp
  obtain ⟨e, h⟩ := rq_e h
  exact g_put K rfl F hc hk (Nat.le_of_ble_eq_true rfl) (by show Value.long (upd (M t) k x.toInt32 k).toInt64 = _; rw [upd_at, e]) rfl rfl hd (kk _ h)
theorem g_iald (K : Kx L X Γ own b nL d ret) {pn : Nat} (hp : pc + 1 = pn) {t n : Nat} {ch : Nat → Nat} {i : Int32} {ρ : Type} {res : ρ} {A : Option ρ} (hc : L[t]? = some (.inr (0, n, ch))) (hd : decode b pc = .ok (.iaload, 1)) (h : ck i n A = some res) (kk : A = some res → G L X Γ nL Q pn lv (.int (M t i.toNatClampNeg) :: st) M) : G L X Γ nL Q pc lv (.int i :: .ref (X.2.2.2.1 t) :: st) M := by
  subst hp
  exact fun H locs ls hl hP hS => va_iald K.ex K.cd K.kk hP t 0 (wsO_at hc) (show (tysO X.2.2.1)[0]? = some (X.2.2.1 0, _) from rfl) (ck_e h).1 hd (kk (ck_e h).2 H locs ls hl hP hS)
theorem g_zald (K : Kx L X Γ own b nL d ret) {pn : Nat} (hp : pc + 1 = pn) {t n : Nat} {ch : Nat → Nat} {i : Int32} {ρ : Type} {res : ρ} {A : Option ρ} (hc : L[t]? = some (.inr (1, n, ch))) (hd : decode b pc = .ok (.baload, 1)) (h : ck i n A = some res) (kk : A = some res → G L X Γ nL Q pn lv (.int (M t i.toNatClampNeg) :: st) M) : G L X Γ nL Q pc lv (.int i :: .ref (X.2.2.2.1 t) :: st) M := by
  subst hp
  exact fun H locs ls hl hP hS => va_zald K.ex K.cd K.kk hP t 1 (wsO_at hc) (show (tysO X.2.2.1)[1]? = some (X.2.2.1 1, _) from rfl) (ck_e h).1 hd (kk (ck_e h).2 H locs ls hl hP hS)
theorem g_iast (K : Kx L X Γ own b nL d ret) {pn : Nat} (hp : pc + 1 = pn) {t n : Nat} {ch : Nat → Nat} {i x : Int32} {ρ : Type} {res : ρ} {f : Mem → Option ρ} (hc : L[t]? = some (.inr (0, n, ch))) (hd : decode b pc = .ok (.iastore, 1)) (h : ck i n (bnd (wr M t i.toNatClampNeg x) f) = some res) (kk : ∀ M1 : Mem, f M1 = some res → G L X Γ nL Q pn lv st M1) : G L X Γ nL Q pc lv (.int x :: .int i :: .ref (X.2.2.2.1 t) :: st) M := by
  subst hp
  exact fun H locs ls hl hP hS => va_iast K.ex K.cd K.kk hP (K.ad.D M) hS t 0 (wsO_at hc) (show (tysO X.2.2.1)[0]? = some (X.2.2.1 0, _) from rfl) (ck_e h).1 hd (fun H1 locs1 hP1 hD1 hS1 => by
      have hc' : L[t]? = some (.inr (0, n, ch)) := hc
      rw [wsO_st hc' (Nat.le_of_ble_eq_true rfl)] at hP1
      exact kk _ (ck_e h).2 H1 locs1 ls hl hP1 hS1)
theorem g_zast (K : Kx L X Γ own b nL d ret) {pn : Nat} (hp : pc + 1 = pn) {t n : Nat} {ch : Nat → Nat} {i x : Int32} {ρ : Type} {res : ρ} {f : Mem → Option ρ} (hc : L[t]? = some (.inr (1, n, ch))) (hd : decode b pc = .ok (.bastore, 1)) (h : ck i n (bnd (wr M t i.toNatClampNeg (vp_nar .boolean x)) f) = some res) (kk : ∀ M1 : Mem, f M1 = some res → G L X Γ nL Q pn lv st M1) : G L X Γ nL Q pc lv (.int x :: .int i :: .ref (X.2.2.2.1 t) :: st) M := by
  subst hp
  exact fun H locs ls hl hP hS => va_zast K.ex K.cd K.kk hP (K.ad.D M) hS t 1 (wsO_at hc) (show (tysO X.2.2.1)[1]? = some (X.2.2.1 1, _) from rfl) (ck_e h).1 hd (fun H1 locs1 hP1 hD1 hS1 => by
      have hc' : L[t]? = some (.inr (1, n, ch)) := hc
      rw [wsO_st hc' (Nat.le_of_ble_eq_true rfl)] at hP1
      exact kk _ (ck_e h).2 H1 locs1 ls hl hP1 hS1)
theorem g_aald (K : Kx L X Γ own b nL d ret) {pn : Nat} (hp : pc + 1 = pn) {t n ty : Nat} {C : String} {ch : Nat → Nat} {i : Int32} {ρ : Type} {res : ρ} {A : Option ρ} (hc : L[t]? = some (.inr (ty + 2, n, ch))) (hty : (tysO X.2.2.1)[ty + 2]? = some (X.2.2.1 (ty + 2), .object C)) (hd : decode b pc = .ok (.aaload, 1)) (h : ck i n A = some res) (kk : vp_in i n → A = some res → G L X Γ nL Q pn lv (.ref (X.2.2.2.1 (ch i.toNatClampNeg)) :: st) M) : G L X Γ nL Q pc lv (.int i :: .ref (X.2.2.2.1 t) :: st) M := by
  subst hp
  exact fun H locs ls hl hP hS => va_aldq K.ex K.cd K.kk hP t (ty + 2) (wsO_at hc) hty (ck_e h).1 hd (kk (ck_e h).1 (ck_e h).2 H locs ls hl hP hS)
theorem g_alen (K : Kx L X Γ own b nL d ret) {pn : Nat} (hp : pc + 1 = pn) {t n ty : Nat} {ch : Nat → Nat} {v : Int32} {fty : FieldType} (hc : L[t]? = some (.inr (ty, n, ch))) (hty : (tysO X.2.2.1)[ty]? = some (X.2.2.1 ty, fty)) (hv : Int32.ofNat n = v) (hd : decode b pc = .ok (.arraylength, 1)) (kk : G L X Γ nL Q pn lv (.int v :: st) M) : G L X Γ nL Q pc lv (.ref (X.2.2.2.1 t) :: st) M := by
  subst hp
  exact fun H locs ls hl hP hS => va_alen K.ex K.cd K.kk hP t ty (wsO_at hc) hty hv hd (kk H locs ls hl hP hS)
theorem g_gets (K : Kx L X Γ own b nL d ret) {pn : Nat} (hp : pc + 3 = pn) {idx j : Nat} (hj : j < 4) (hw : Cond.fieldLink own idx "BeforeItGoes" (tnm j) "[I" ∈ gt ∨ ∃ host : String, Cond.fieldLinkNest own idx "BeforeItGoes" (tnm j) "[I" host ∈ nw) (hd : decode b pc = .ok (.getstatic idx, 3)) (kk : G L X Γ nL Q pn lv (.ref (X.2.2.2.1 (1000 + j)) :: st) M) : G L X Γ nL Q pc lv st M := by
  subst hp
  intro H locs ls hl hP hS
  rcases hw with hw | ⟨host, hw⟩
  · exact va_gets K.ex K.cd (K.sta.1 j hj).1 hS K.ow (K.ts _ hw) (fun _ h => h) hd (kk H locs ls hl hP hS)
  · exact va_getsN K.ex K.cd (K.sta.1 j hj).1 hS K.ow (K.nw _ hw) (fun _ h => h) hd (kk H locs ls hl hP hS)
theorem g_tald (K : Kx L X Γ own b nL d ret) {pn : Nat} (hp : pc + 1 = pn) {j n : Nat} {i : Int32} {ρ : Type} {res : ρ} {A : Option ρ} (hj : j < 4) (hn : (tab j).length = n) (hd : decode b pc = .ok (.iaload, 1)) (h : ck i n A = some res) (kk : A = some res → G L X Γ nL Q pn lv (.int (tb j i.toNatClampNeg) :: st) M) : G L X Γ nL Q pc lv (.int i :: .ref (X.2.2.2.1 (1000 + j)) :: st) M := by
  subst hp
  subst hn
  exact fun H locs ls hl hP hS => va_ti K.ex K.cd (K.sta.1 j hj).2 hS (ck_e h).1 rfl hd (kk (ck_e h).2 H locs ls hl hP hS)
theorem g_tlen (K : Kx L X Γ own b nL d ret) {pn : Nat} (hp : pc + 1 = pn) {j : Nat} {v : Int32} (hj : j < 4) (hv : Int32.ofNat (tab j).length = v) (hd : decode b pc = .ok (.arraylength, 1)) (kk : G L X Γ nL Q pn lv (.int v :: st) M) : G L X Γ nL Q pc lv (.ref (X.2.2.2.1 (1000 + j)) :: st) M := by
  subst hp
  exact fun H locs ls hl hP hS => va_tlen K.ex K.cd (K.sta.1 j hj).2 hS hv hd (kk H locs ls hl hP hS)
theorem g_ldcS (K : Kx L X Γ own b nL d ret) {pn : Nat} (hp : pc + 2 = pn) {idx i : Nat} {tx : String} (hi : whS[i]? = some (own, idx, tx)) (hd : decode b pc = .ok (.ldc idx, 2)) (kk : G L X Γ nL Q pn lv (.ref (X.2.2.2.1 (2000 + i)) :: st) M) : G L X Γ nL Q pc lv st M := by
  subst hp
  exact fun H locs ls hl hP hS => va_ldcS K.ex K.cd K.ow (K.sta.2.2.1 i _ hi) hd (kk H locs ls hl hP hS)
theorem g_coder (K : Kx L X Γ own b nL d ret) {pn : Nat} (hp : pc + 3 = pn) {idx i : Nat} (hi : i < nS) (hw : Cond.fieldLink own idx "java/lang/String" "coder" "B" ∈ gt) (hd : decode b pc = .ok (.getfield idx, 3)) (kk : G L X Γ nL Q pn lv (.int 0 :: st) M) : G L X Γ nL Q pc lv (.ref (X.2.2.2.1 (2000 + i)) :: st) M := by
  subst hp
  exact fun H locs ls hl hP hS => vk_getf K.ex K.cd (K.sta.2.1.1 i hi).2.1 hS K.ow (K.ts _ hw) (fun _ h => h) hd (kk H locs ls hl hP hS)
theorem g_value (K : Kx L X Γ own b nL d ret) {pn : Nat} (hp : pc + 3 = pn) {idx i : Nat} (hi : i < nS) (hw : Cond.fieldLink own idx "java/lang/String" "value" "[B" ∈ gt) (hd : decode b pc = .ok (.getfield idx, 3)) (kk : G L X Γ nL Q pn lv (.ref (X.2.2.2.1 (3000 + i)) :: st) M) : G L X Γ nL Q pc lv (.ref (X.2.2.2.1 (2000 + i)) :: st) M := by
  subst hp
  exact fun H locs ls hl hP hS => vk_getf K.ex K.cd (K.sta.2.1.1 i hi).2.2.1 hS K.ow (K.ts _ hw) (fun _ h => h) hd (kk H locs ls hl hP hS)
theorem g_compact (K : Kx L X Γ own b nL d ret) {pn : Nat} (hp : pc + 3 = pn) {idx : Nat} (hw : Cond.fieldLink own idx "java/lang/String" "COMPACT_STRINGS" "Z" ∈ gt) (hd : decode b pc = .ok (.getstatic idx, 3)) (kk : G L X Γ nL Q pn lv (.int 1 :: st) M) : G L X Γ nL Q pc lv st M := by
  subst hp
  exact fun H locs ls hl hP hS => va_gets K.ex K.cd K.sta.2.2.2.1 hS K.ow (K.ts _ hw) (fun _ h => h) hd (kk H locs ls hl hP hS)
theorem g_siobe (K : Kx L X Γ own b nL d ret) {pn : Nat} (hp : pc + 3 = pn) {idx : Nat} (hw : Cond.fieldLink own idx "jdk/internal/util/Preconditions" "SIOOBE_FORMATTER" "Ljava/util/function/BiFunction;" ∈ gt) (hd : decode b pc = .ok (.getstatic idx, 3)) (kk : ∀ v : Value, (v = .null ∨ ∃ t : Nat, v = .ref t) → G L X Γ nL Q pn lv (v :: st) M) : G L X Γ nL Q pc lv st M := by
  subst hp
  rcases K.sta.2.2.2.2.2 with hz | ⟨t, hz⟩
  · exact fun H locs ls hl hP hS => va_gets K.ex K.cd hz hS K.ow (K.ts _ hw) (fun _ h => h) hd (kk _ (Or.inl rfl) H locs ls hl hP hS)
  · exact fun H locs ls hl hP hS => va_gets K.ex K.cd hz hS K.ow (K.ts _ hw) (fun _ h => h) hd (kk _ (Or.inr ⟨t, rfl⟩) H locs ls hl hP hS)
theorem g_bald (K : Kx L X Γ own b nL d ret) {pn : Nat} (hp : pc + 1 = pn) {i n : Nat} {j : Int32} {ρ : Type} {res : ρ} {A : Option ρ} (hi : i < nS) (hn : lenS.getD i 0 = n) (hd : decode b pc = .ok (.baload, 1)) (h : ck j n A = some res) (kk : A = some res → G L X Γ nL Q pn lv (.int ((bytS.getD i []).getD j.toNatClampNeg 0) :: st) M) : G L X Γ nL Q pc lv (.int j :: .ref (X.2.2.2.1 (3000 + i)) :: st) M := by
  subst hp
  subst hn
  exact fun H locs ls hl hP hS => va_tb K.ex K.cd (K.sta.2.1.1 i hi).2.2.2 hS (ck_e h).1 rfl hd (kk (ck_e h).2 H locs ls hl hP hS)
theorem g_blen (K : Kx L X Γ own b nL d ret) {pn : Nat} (hp : pc + 1 = pn) {i : Nat} (hi : i < nS) (hd : decode b pc = .ok (.arraylength, 1)) (kk : G L X Γ nL Q pn lv (.int (nI (lenS.getD i 0)) :: st) M) : G L X Γ nL Q pc lv (.ref (X.2.2.2.1 (3000 + i)) :: st) M := by
  subst hp
  exact fun H locs ls hl hP hS => va_tlen K.ex K.cd (K.sta.2.1.1 i hi).2.2.2 hS rfl hd (kk H locs ls hl hP hS)
theorem pre_blind {av : List Value} : FrameBlind (va_Pc av (Pre L X M)) := by
  intro a U g mk q
  obtain ⟨q0, qP, qK, qS, qA⟩ := q
  exact ⟨q0, qP, va_K.moved (u := U) (U := U.calling g mk a) (Vm.Alike.refl U.vm) qK, St.same (u := U) (U := U.calling g mk a) rfl qS, qA⟩
theorem pre_at (K : Kx L X Γ own b nL d ret) {H : Heap} {locs : List Loc} {av : List Value} (hP : va_P X.2.1 vwCl (wsO L X M) H) (hS : va_S X.2.2.2.2 Γ.2.2.1.heap H locs) : ∀ U : State, U.heap = H → Γ.2.2.1.WarmedH U.vm → va_Pc av (Pre L X M) av.toArray U := by
  intro U hU hW
  refine ⟨rfl, by rw [hU]; exact hP, va_K.moved hW.alike K.kk, ?_, K.ad⟩
  rw [hU]
  exact (K.sta.kept hS.2.1).warm hW
theorem g_run {st0 rest : List Value} {M1 : Mem} {v : Option Value} {a : Array Value} (hr : ∀ (H : Heap) (locs : List Loc) (ls : Array Slot), lv_has ls nL lv → va_P X.2.1 vwCl (wsO L X M) H → va_S X.2.2.2.2 Γ.2.2.1.heap H locs → va_Run Γ.1 X.1 Γ.2.1 Γ.2.2.2.2.2.2.2.2.1 Γ.2.2.1 Γ.2.2.2.1 Γ.2.2.2.2.1 Γ.2.2.2.2.2.1 Γ.2.2.2.2.2.2.1 Γ.2.2.2.2.2.2.2.1 H locs Γ.2.2.2.2.2.2.2.2.2.1 Γ.2.2.2.2.2.2.2.2.2.2 0 0 (F0 Γ.2.2.2.1 pc ls st0) rest (Qo L X v M1 a) X.2.2.2.2) (kk : G L X Γ nL Q (pc + 3) lv (v.toList ++ rest) M1) : G L X Γ nL Q pc lv st0 M := by
  intro H locs ls hl hP hS T hT Xs
  obtain ⟨v', st₀, t, T', Lc, h0, X', hL, e1, e2, ⟨hv, hP1, hz, hk⟩, stp⟩ := hr H locs ls hl hP hS T hT Xs
  cases hv
  rw [h0] at hz hk
  obtain ⟨t2, a1, b1⟩ := kk T'.heap (locs ++ Lc) ls hl (by rw [e1]; exact hP1) ⟨Nat.le_trans hS.1 (by rw [e1]; exact hz), fun q h1 h2 => by rw [e1, hk q (Nat.lt_of_lt_of_le h1 hS.1) h2]; exact hS.2.1 q h1 h2, fun q hq => by
      rcases List.mem_append.mp hq with h | h
      · exact hS.2.2 q h
      · exact hL q h⟩ T' rfl X'
  exact ⟨t2, stp t2 a1, b1⟩
theorem gt_call {y : MethodName} {b' : ByteArray} {n' : Nat} {r' : Option FieldType} (h : Cond.code y b' n' r' ∈ gt) : GoodIn gt (.code y b' n' r' :: gt) := gt_good (fun w hw => (List.mem_cons.mp hw).elim (fun e => e ▸ h) id)
theorem g_callV (K : Kx L X Γ own b nL d ret) {pn : Nat} (hp : pc + 3 = pn) {idx n d' : Nat} {y : MethodName} {b' : ByteArray} {nL' : Nat} {ret' : Option FieldType} {As st0 rest : List Value} {a : Nat} {v : Option Value} {M1 : Mem} (hdd : d' + 1 ≤ d) (V : MV own idx y b' nL' ret' n) (hrc : ∀ (H : Heap) (locs : List Loc), va_P X.2.1 vwCl (wsO L X M) H → va_S X.2.2.2.2 Γ.2.2.1.heap H locs → ∃ cellB : Cell, H[X.2.2.2.1 a]? = some cellB ∧ cellB.vm.isStatics = false ∧ Γ.2.2.1.vm.findClass y.cls = some cellB.cls) (ct : CT L X d' y b' nL' ret' (.ref (X.2.2.2.1 a) :: As) M M1 v) (hn : As.length = n) (hst : st0 = As.reverse ++ .ref (X.2.2.2.1 a) :: rest) (hw : (rest.map fun v => v.category).sum ≤ 8) (hd : decode b pc = .ok (.invokevirtual idx, 3)) (kk : G L X Γ nL Q pn lv (v.toList ++ rest) M1) : G L X Γ nL Q pc lv st0 M := by
  subst hp
  obtain ⟨hl0, hin, hse, hini, hco, hyy, hnl⟩ := V
  have hR : (rm d').frames + 1 ≤ Γ.2.2.2.2.2.2.2.2.1.frames ∧ 8 + (nL' + 11) + (rm d').locals ≤ Γ.2.2.2.2.2.2.2.2.1.locals := ⟨Nat.le_trans hdd K.fr, by have := K.lo; show 8 + (nL' + 11) + 40 * d' ≤ _; omega⟩
  refine g_run (rest := rest) (v := v) (M1 := M1) (a := (Value.ref (X.2.2.2.1 a) :: As).toArray) (fun H locs ls hl hP hS => ?_) kk
  rcases hl0 with hl0 | ⟨host, hl0⟩
  · exact va_runV ⟨K.ex, K.cd, K.ml, K.ow, K.ts⟩ ct (cwV (own := own) (index := idx) (C := y.cls) n K.ts (gt_good (fun w hw => by
        rcases List.mem_append.mp hw with hw | hw
        · simp only [List.mem_cons, List.not_mem_nil, or_false] at hw
          rcases hw with rfl | rfl | rfl | rfl <;> assumption
        · exact (List.mem_cons.mp hw).elim (fun e => e ▸ hco) id)) rfl rfl rfl ⟨rfl, hyy⟩ hR) ⟨pre_blind, hrc H locs hP hS, pre_at K hP hS⟩ rfl hn hl.1 hst (lv_room hw) hd ⟨K.ce, K.sl⟩
  · exact va_runVN ⟨K.ex, K.cd, K.ml, K.ow, K.ts⟩ ct ⟨va_cnB n K.ts (gt_call hco) rfl rfl rfl (va_Nw.of rfl (K.nw _ hl0)) (K.ts _ hini) hyy hR, K.ts _ hin, K.ts _ hse⟩ ⟨pre_blind, hrc H locs hP hS, pre_at K hP hS⟩ rfl hn hl.1 hst (lv_room hw) hd ⟨K.ce, K.sl⟩
theorem recvO (K : Kx L X Γ own b nL d ret) {t ci : Nat} {sp : List Nat} {q : vw_C} (hc : L[t]? = some (.inl (ci, sp))) (hq : vwCl[ci]? = some q) : ∀ (H : Heap) (locs : List Loc), va_P X.2.1 vwCl (wsO L X M) H → va_S X.2.2.2.2 Γ.2.2.1.heap H locs → ∃ cellB : Cell, H[X.2.2.2.1 t]? = some cellB ∧ cellB.vm.isStatics = false ∧ Γ.2.2.1.vm.findClass q.1 = some cellB.cls := fun H locs hP hS => va_recv K.kk hP hq (wsO_at hc)
theorem recvS (K : Kx L X Γ own b nL d ret) {i : Nat} (hi : i < nS) : ∀ (H : Heap) (locs : List Loc), va_P X.2.1 vwCl (wsO L X M) H → va_S X.2.2.2.2 Γ.2.2.1.heap H locs → ∃ cellB : Cell, H[X.2.2.2.1 (2000 + i)]? = some cellB ∧ cellB.vm.isStatics = false ∧ Γ.2.2.1.vm.findClass "java/lang/String" = some cellB.cls := fun H locs hP hS => vk_recv (adK := fun i => X.2.2.2.1 (2000 + i)) (i := i) K.sta.2.1 hi hS
theorem g_callS (K : Kx L X Γ own b nL d ret) {pn : Nat} (hp : pc + 3 = pn) {idx n d' : Nat} {y : MethodName} {b' : ByteArray} {nL' : Nat} {ret' : Option FieldType} {As st0 rest : List Value} {v : Option Value} {M1 : Mem} (hdd : d' + 1 ≤ d) (V : MS own idx y b' nL' ret' n) (ct : CT L X d' y b' nL' ret' As M M1 v) (hn : As.length = n) (hst : st0 = As.reverse ++ rest) (hw : (rest.map fun v => v.category).sum ≤ 8) (hd : decode b pc = .ok (.invokestatic idx, 3)) (kk : G L X Γ nL Q pn lv (v.toList ++ rest) M1) : G L X Γ nL Q pc lv st0 M := by
  subst hp
  obtain ⟨hl0, hsa, hini, hco, hyy, hnl⟩ := V
  have hR : (rm d').frames + 1 ≤ Γ.2.2.2.2.2.2.2.2.1.frames ∧ 8 + (nL' + 11) + (rm d').locals ≤ Γ.2.2.2.2.2.2.2.2.1.locals := ⟨Nat.le_trans hdd K.fr, by have := K.lo; show 8 + (nL' + 11) + 40 * d' ≤ _; omega⟩
  refine g_run (rest := rest) (v := v) (M1 := M1) (a := As.toArray) (fun H locs ls hl hP hS => ?_) kk
  rcases hl0 with hl0 | ⟨host, hl0⟩
  · exact va_runS ⟨K.ex, K.cd, K.ml, K.ow, K.ts⟩ ct (va_cwS (own := own) (index := idx) n K.ts (gt_good (fun w hw => by
        rcases List.mem_append.mp hw with hw | hw
        · simp only [List.mem_cons, List.not_mem_nil, or_false] at hw
          rcases hw with rfl | rfl | rfl <;> assumption
        · exact (List.mem_cons.mp hw).elim (fun e => e ▸ hco) id)) rfl rfl rfl hyy hR) ⟨pre_blind, pre_at K hP hS⟩ rfl hn hl.1 hst (lv_room hw) hd ⟨K.ce, K.sl⟩
  · exact va_runSN ⟨K.ex, K.cd, K.ml, K.ow, K.ts⟩ ct ⟨va_cnB n K.ts (gt_call hco) rfl rfl rfl (va_Nw.of rfl (K.nw _ hl0)) (K.ts _ hini) hyy hR, K.ts _ hsa, trivial⟩ ⟨pre_blind, pre_at K hP hS⟩ rfl hn hl.1 hst (lv_room hw) hd ⟨K.ce, K.sl⟩
theorem g_callV1 (K : Kx L X Γ own b nL d ret) {pn : Nat} (hp : pc + 3 = pn) {idx n d' : Nat} {y : MethodName} {b' : ByteArray} {nL' : Nat} {ret' : Option FieldType} {As st0 rest : List Value} {a : Nat} {w : Value} {M1 : Mem} (hdd : d' + 1 ≤ d) (V : MV own idx y b' nL' ret' n) (hrc : ∀ (H : Heap) (locs : List Loc), va_P X.2.1 vwCl (wsO L X M) H → va_S X.2.2.2.2 Γ.2.2.1.heap H locs → ∃ cellB : Cell, H[X.2.2.2.1 a]? = some cellB ∧ cellB.vm.isStatics = false ∧ Γ.2.2.1.vm.findClass y.cls = some cellB.cls) (ct : CT L X d' y b' nL' ret' (.ref (X.2.2.2.1 a) :: As) M M1 (some w)) (hn : As.length = n) (hst : st0 = As.reverse ++ .ref (X.2.2.2.1 a) :: rest) (hw : (rest.map fun v => v.category).sum ≤ 8) (hd : decode b pc = .ok (.invokevirtual idx, 3)) (kk : G L X Γ nL Q pn lv (w :: rest) M1) : G L X Γ nL Q pc lv st0 M := by
  subst hp
  exact g_callV K rfl hdd V hrc ct hn hst hw hd kk
theorem g_callV0 (K : Kx L X Γ own b nL d ret) {pn : Nat} (hp : pc + 3 = pn) {idx n d' : Nat} {y : MethodName} {b' : ByteArray} {nL' : Nat} {ret' : Option FieldType} {As st0 rest : List Value} {a : Nat}  {M1 : Mem} (hdd : d' + 1 ≤ d) (V : MV own idx y b' nL' ret' n) (hrc : ∀ (H : Heap) (locs : List Loc), va_P X.2.1 vwCl (wsO L X M) H → va_S X.2.2.2.2 Γ.2.2.1.heap H locs → ∃ cellB : Cell, H[X.2.2.2.1 a]? = some cellB ∧ cellB.vm.isStatics = false ∧ Γ.2.2.1.vm.findClass y.cls = some cellB.cls) (ct : CT L X d' y b' nL' ret' (.ref (X.2.2.2.1 a) :: As) M M1 none) (hn : As.length = n) (hst : st0 = As.reverse ++ .ref (X.2.2.2.1 a) :: rest) (hw : (rest.map fun v => v.category).sum ≤ 8) (hd : decode b pc = .ok (.invokevirtual idx, 3)) (kk : G L X Γ nL Q pn lv rest M1) : G L X Γ nL Q pc lv st0 M := by
  subst hp
  exact g_callV K rfl hdd V hrc ct hn hst hw hd kk
theorem g_callS1 (K : Kx L X Γ own b nL d ret) {pn : Nat} (hp : pc + 3 = pn) {idx n d' : Nat} {y : MethodName} {b' : ByteArray} {nL' : Nat} {ret' : Option FieldType} {As st0 rest : List Value}  {w : Value} {M1 : Mem} (hdd : d' + 1 ≤ d) (V : MS own idx y b' nL' ret' n)  (ct : CT L X d' y b' nL' ret' As M M1 (some w)) (hn : As.length = n) (hst : st0 = As.reverse ++ rest) (hw : (rest.map fun v => v.category).sum ≤ 8) (hd : decode b pc = .ok (.invokestatic idx, 3)) (kk : G L X Γ nL Q pn lv (w :: rest) M1) : G L X Γ nL Q pc lv st0 M := by
  subst hp
  exact g_callS K rfl hdd V  ct hn hst hw hd kk
theorem g_callS0 (K : Kx L X Γ own b nL d ret) {pn : Nat} (hp : pc + 3 = pn) {idx n d' : Nat} {y : MethodName} {b' : ByteArray} {nL' : Nat} {ret' : Option FieldType} {As st0 rest : List Value}   {M1 : Mem} (hdd : d' + 1 ≤ d) (V : MS own idx y b' nL' ret' n)  (ct : CT L X d' y b' nL' ret' As M M1 none) (hn : As.length = n) (hst : st0 = As.reverse ++ rest) (hw : (rest.map fun v => v.category).sum ≤ 8) (hd : decode b pc = .ok (.invokestatic idx, 3)) (kk : G L X Γ nL Q pn lv rest M1) : G L X Γ nL Q pc lv st0 M := by
  subst hp
  exact g_callS K rfl hdd V  ct hn hst hw hd kk
theorem g_mmax (K : Kx L X Γ own b nL d ret) {pn : Nat} (hp : pc + 3 = pn) {idx : Nat} {x y : Int32} (hdd : 1 ≤ d) (h1 : Cond.methodLink own idx Lib.Math.max.name ∈ gt) (h2 : Cond.static Lib.Math.max.name ∈ gt) (h3 : Cond.initialized "java/lang/Math" ∈ gt) (h4 : Cond.code Lib.Math.max.name Lib.Math.max.code 2 (some .int) ∈ gt) (hw : (st.map fun v => v.category).sum ≤ 8) (hd : decode b pc = .ok (.invokestatic idx, 3)) (kk : G L X Γ nL Q pn lv (.int (imax x y) :: st) M) : G L X Γ nL Q pc lv (.int y :: .int x :: st) M := by
  subst hp
  exact fun H locs ls hl hP hS => va_mmax K.ex K.cd (K.ml.trans hl.1.symm) K.ow (K.ts _ h1) (K.ts _ h2) (K.ts _ h3) (K.ts _ h4) (Nat.le_trans hdd K.fr) (by have := K.lo; omega) K.ce K.sl hd (kk H locs ls hl hP hS)
theorem g_mmin (K : Kx L X Γ own b nL d ret) {pn : Nat} (hp : pc + 3 = pn) {idx : Nat} {x y : Int32} (hdd : 1 ≤ d) (h1 : Cond.methodLink own idx Lib.Math.min.name ∈ gt) (h2 : Cond.static Lib.Math.min.name ∈ gt) (h3 : Cond.initialized "java/lang/Math" ∈ gt) (h4 : Cond.code Lib.Math.min.name Lib.Math.min.code 2 (some .int) ∈ gt) (hw : (st.map fun v => v.category).sum ≤ 8) (hd : decode b pc = .ok (.invokestatic idx, 3)) (kk : G L X Γ nL Q pn lv (.int (imin x y) :: st) M) : G L X Γ nL Q pc lv (.int y :: .int x :: st) M := by
  subst hp
  exact fun H locs ls hl hP hS => va_mmin K.ex K.cd (K.ml.trans hl.1.symm) K.ow (K.ts _ h1) (K.ts _ h2) (K.ts _ h3) (K.ts _ h4) (Nat.le_trans hdd K.fr) (by have := K.lo; omega) K.ce K.sl hd (kk H locs ls hl hP hS)
theorem g_copy (K : Kx L X Γ own b nL d ret) {idx t0 t1 n0 n1 : Nat} {ch0 ch1 : Nat → Nat} {sp dp n : Int32} {ρ : Type} {res : ρ} {f : Mem → Option ρ} (hdd : 2 ≤ d) (h1 : Cond.methodLink own idx arraycopyName ∈ gt) (h2 : Cond.native arraycopyName ∈ gt) (h3 : Cond.static arraycopyName ∈ gt) (h4 : Cond.initialized "java/lang/System" ∈ gt) (hc0 : L[t0]? = some (.inr (0, n0, ch0))) (hc1 : L[t1]? = some (.inr (0, n1, ch1))) (hw : (st.map fun v => v.category).sum ≤ 8) (hd : decode b pc = .ok (.invokestatic idx, 3))
    (h : rq (¬ sp < 0 ∧ ¬ dp < 0 ∧ ¬ n < 0 ∧ sp.toNatClampNeg + n.toNatClampNeg ≤ n0 ∧ dp.toNatClampNeg + n.toNatClampNeg ≤ n1) (bnd (wrA M t1 (va_cpy (M t0) (M t1) sp.toNatClampNeg dp.toNatClampNeg n.toNatClampNeg)) f) = some res) (kk : ∀ M1 : Mem, f M1 = some res → G L X Γ nL Q (pc + 3) lv st M1) : G L X Γ nL Q pc lv (.int n :: .int dp :: .ref (X.2.2.2.1 t1) :: .int sp :: .ref (X.2.2.2.1 t0) :: st) M := by
  obtain ⟨⟨g1, g2, g3, g4, g5⟩, h⟩ := rq_e h
  have hnl : (st.map fun v => v.category).sum + (nativeFrameWords "java/lang/System" "arraycopy" 5 + 11) ≤ Γ.2.2.2.2.2.2.2.2.1.locals := by
    have e8 := K.lo
    have e9 : nativeFrameWords "java/lang/System" "arraycopy" 5 ≤ 50 := by decide
    omega
  intro H locs ls hl hP hS
  refine va_copyi K.ex K.cd (K.ml.trans hl.1.symm) K.ow (K.ts _ h1) (K.ts _ h2) (K.ts _ h3) (K.ts _ h4) K.kk hP (K.ad.D M) hS t0 t1 0 0 (wsO_at hc0) (wsO_at hc1) (ty := .int) rfl rfl rfl g1 g2 g3 g4 g5 (fun _ _ => rfl) (Nat.le_trans (Nat.le_trans (by omega) hdd) K.fr) hnl hd (fun H1 locs1 hP1 hD1 hS1 => ?_)
  rw [wsO_stA hc1 (Nat.le_of_ble_eq_true rfl)] at hP1
  exact kk _ h H1 locs1 ls hl hP1 hS1
theorem oi {α : Type} {a b : α} (h : some a = some b) : a = b := Option.some.inj h
theorem oi2 {α β : Type} {a b : α} {c d : β} (h : some (a, c) = some (b, d)) : a = b ∧ c = d := by cases h; exact ⟨rfl, rfl⟩
def oc {α β : Type} (x : Option α) (n : β) (f : α → β) : β := match x with
  | none => n
  | some a => f a
theorem ckI {β : Type} {i : Int32} {n : Nat} {x : Option β} {r : β} (h : ck i n x = some r) : vp_in i n := (ck_e h).1
theorem oc_n {α β : Type} {A r : β} {F : α → β} (h : oc none A F = r) : A = r := h
theorem oc_s {α β : Type} {a : α} {A r : β} {F : α → β} (h : oc (some a) A F = r) : F a = r := h
theorem bq0 {r : Bool} (h : false = r) : (0 : Int32) = b2i r := by subst h; rfl
theorem bq1 {r : Bool} (h : true = r) : (1 : Int32) = b2i r := by subst h; rfl
theorem bqz {z r : Bool} (h : z = r) : b2i z = b2i r := by subst h; rfl
theorem ob_n {α β : Type} (k : α → Option β) : ob none k = none := rfl
theorem ob_s {α β : Type} (a : α) (k : α → Option β) : ob (some a) k = k a := rfl
theorem ob2_s {α γ β : Type} (a : α) (c : γ) (k : α → γ → Option β) : ob2 (some (a, c)) k = k a c := rfl
def rv (ad : Nat → Nat) (r : Option Nat) : Value := match r with
  | none => .null
  | some c => .ref (ad c)
theorem jp_e1 {α1 ρ : Type} {res : ρ} {k : α1 → Option ρ} {f : (α1 → Option ρ) → Option ρ} {C : Prop} (h : jp k f = some res) (P : α1 → Prop) (hk : ∀ (a1 : α1), k a1 = some res → P a1) (hf : ∀ j : α1 → Option ρ, (∀ (a1 : α1), j a1 = some res → P a1) → f j = some res → C) : C := hf k hk h
theorem jp_e2 {α1 α2 ρ : Type} {res : ρ} {k : α1 → α2 → Option ρ} {f : (α1 → α2 → Option ρ) → Option ρ} {C : Prop} (h : jp k f = some res) (P : α1 → α2 → Prop) (hk : ∀ (a1 : α1) (a2 : α2), k a1 a2 = some res → P a1 a2) (hf : ∀ j : α1 → α2 → Option ρ, (∀ (a1 : α1) (a2 : α2), j a1 a2 = some res → P a1 a2) → f j = some res → C) : C := hf k hk h
theorem jp_e3 {α1 α2 α3 ρ : Type} {res : ρ} {k : α1 → α2 → α3 → Option ρ} {f : (α1 → α2 → α3 → Option ρ) → Option ρ} {C : Prop} (h : jp k f = some res) (P : α1 → α2 → α3 → Prop) (hk : ∀ (a1 : α1) (a2 : α2) (a3 : α3), k a1 a2 a3 = some res → P a1 a2 a3) (hf : ∀ j : α1 → α2 → α3 → Option ρ, (∀ (a1 : α1) (a2 : α2) (a3 : α3), j a1 a2 a3 = some res → P a1 a2 a3) → f j = some res → C) : C := hf k hk h
theorem jp_e4 {α1 α2 α3 α4 ρ : Type} {res : ρ} {k : α1 → α2 → α3 → α4 → Option ρ} {f : (α1 → α2 → α3 → α4 → Option ρ) → Option ρ} {C : Prop} (h : jp k f = some res) (P : α1 → α2 → α3 → α4 → Prop) (hk : ∀ (a1 : α1) (a2 : α2) (a3 : α3) (a4 : α4), k a1 a2 a3 a4 = some res → P a1 a2 a3 a4) (hf : ∀ j : α1 → α2 → α3 → α4 → Option ρ, (∀ (a1 : α1) (a2 : α2) (a3 : α3) (a4 : α4), j a1 a2 a3 a4 = some res → P a1 a2 a3 a4) → f j = some res → C) : C := hf k hk h
theorem jp_e5 {α1 α2 α3 α4 α5 ρ : Type} {res : ρ} {k : α1 → α2 → α3 → α4 → α5 → Option ρ} {f : (α1 → α2 → α3 → α4 → α5 → Option ρ) → Option ρ} {C : Prop} (h : jp k f = some res) (P : α1 → α2 → α3 → α4 → α5 → Prop) (hk : ∀ (a1 : α1) (a2 : α2) (a3 : α3) (a4 : α4) (a5 : α5), k a1 a2 a3 a4 a5 = some res → P a1 a2 a3 a4 a5) (hf : ∀ j : α1 → α2 → α3 → α4 → α5 → Option ρ, (∀ (a1 : α1) (a2 : α2) (a3 : α3) (a4 : α4) (a5 : α5), j a1 a2 a3 a4 a5 = some res → P a1 a2 a3 a4 a5) → f j = some res → C) : C := hf k hk h
theorem jp_e6 {α1 α2 α3 α4 α5 α6 ρ : Type} {res : ρ} {k : α1 → α2 → α3 → α4 → α5 → α6 → Option ρ} {f : (α1 → α2 → α3 → α4 → α5 → α6 → Option ρ) → Option ρ} {C : Prop} (h : jp k f = some res) (P : α1 → α2 → α3 → α4 → α5 → α6 → Prop) (hk : ∀ (a1 : α1) (a2 : α2) (a3 : α3) (a4 : α4) (a5 : α5) (a6 : α6), k a1 a2 a3 a4 a5 a6 = some res → P a1 a2 a3 a4 a5 a6) (hf : ∀ j : α1 → α2 → α3 → α4 → α5 → α6 → Option ρ, (∀ (a1 : α1) (a2 : α2) (a3 : α3) (a4 : α4) (a5 : α5) (a6 : α6), j a1 a2 a3 a4 a5 a6 = some res → P a1 a2 a3 a4 a5 a6) → f j = some res → C) : C := hf k hk h
theorem jp_e7 {α1 α2 α3 α4 α5 α6 α7 ρ : Type} {res : ρ} {k : α1 → α2 → α3 → α4 → α5 → α6 → α7 → Option ρ} {f : (α1 → α2 → α3 → α4 → α5 → α6 → α7 → Option ρ) → Option ρ} {C : Prop} (h : jp k f = some res) (P : α1 → α2 → α3 → α4 → α5 → α6 → α7 → Prop) (hk : ∀ (a1 : α1) (a2 : α2) (a3 : α3) (a4 : α4) (a5 : α5) (a6 : α6) (a7 : α7), k a1 a2 a3 a4 a5 a6 a7 = some res → P a1 a2 a3 a4 a5 a6 a7) (hf : ∀ j : α1 → α2 → α3 → α4 → α5 → α6 → α7 → Option ρ, (∀ (a1 : α1) (a2 : α2) (a3 : α3) (a4 : α4) (a5 : α5) (a6 : α6) (a7 : α7), j a1 a2 a3 a4 a5 a6 a7 = some res → P a1 a2 a3 a4 a5 a6 a7) → f j = some res → C) : C := hf k hk h
theorem g_iret (K : Kx L X Γ own b nL d (some .int)) {r r' : Int32} {M' : Mem}  (hd : decode b pc = .ok (.ireturn, 1)) (hr : r = r') (hM : M = M') : G L X Γ nL (QM L X Γ (some (.int r')) M') pc lv [.int r] M := by
  subst hr
  subst hM
  exact fun H locs ls hl hP hS => W.iret K.ex K.cd K.rt  (fun t ht hW => ⟨rfl, by rw [ht]; exact hP, hS.F ht⟩) hS.2.2 hd K.lk
theorem g_lret (K : Kx L X Γ own b nL d (some .long)) {r r' : Int64} {M' : Mem}  (hd : decode b pc = .ok (.lreturn, 1)) (hr : r = r') (hM : M = M') : G L X Γ nL (QM L X Γ (some (.long r')) M') pc lv [.long r] M := by
  subst hr
  subst hM
  exact fun H locs ls hl hP hS => W.lret K.ex K.cd K.rt  (fun t ht hW => ⟨rfl, by rw [ht]; exact hP, hS.F ht⟩) hS.2.2 hd K.lk
theorem g_zret {ty : FieldType} (K : Kx L X Γ own b nL d (some ty)) {x x' : Int32} {M' : Mem} (hn : narrow ty (.int x) = .int x) (hd : decode b pc = .ok (.ireturn, 1)) (hr : x = x') (hM : M = M') : G L X Γ nL (QM L X Γ (some (.int x')) M') pc lv [.int x] M := by
  subst hr
  subst hM
  exact fun H locs ls hl hP hS => W.zret K.ex K.cd K.rt hn (fun t ht hW => ⟨rfl, by rw [ht]; exact hP, hS.F ht⟩) hS.2.2 hd K.lk
theorem narrow_b2i (z : Bool) : narrow .boolean (.int (b2i z)) = .int (b2i z) := by cases z <;> rfl
theorem g_vret (K : Kx L X Γ own b nL d none) {M' : Mem} (hd : decode b pc = .ok (.return_, 1)) (hM : M = M') : G L X Γ nL (QM L X Γ none M') pc lv [] M := by
  subst hM
  exact fun H locs ls hl hP hS => W.vret K.ex K.cd K.rt (fun t ht hW => ⟨rfl, by rw [ht]; exact hP, hS.F ht⟩) hS.2.2 hd K.lk
theorem g_aret {rt : FieldType} (K : Kx L X Γ own b nL d (some rt)) {v v' : Value} {M' : Mem} (hrt : (∃ n, rt = .object n) ∨ ∃ t, rt = .array t) (hv : v = .null ∨ ∃ a, v = .ref a) (hd : decode b pc = .ok (.areturn, 1)) (hr : v = v') (hM : M = M') : G L X Γ nL (QM L X Γ (some v') M') pc lv [v] M := by
  subst hr
  subst hM
  exact fun H locs ls hl hP hS => W.aret K.ex K.cd K.rt hrt hv (fun t ht hW => ⟨rfl, by rw [ht]; exact hP, hS.F ht⟩) hS.2.2 hd K.lk
end ROWS
end
section
/-! layouts, constants, words of the tables: printed by facts.py -/
def layX : List LD := [.inl (7, [3, 9, 0, 15, 20, 24, 0, 25, 42, 43]), .inl (4, [4, 5, 6, 7, 8, 0, 0]), .inr (0, 6, fun _ => 0), .inr (0, 6, fun _ => 0), .inr (0, 6, fun _ => 0), .inr (0, 6, fun _ => 0), .inr (0, 6, fun _ => 0), .inl (4, [10, 11, 12, 13, 14, 0, 0]), .inr (0, 6, fun _ => 0), .inr (0, 6, fun _ => 0), .inr (0, 6, fun _ => 0), .inr (0, 6, fun _ => 0), .inr (0, 6, fun _ => 0), .inl (5, [16, 0, 17, 18, 19, 0]), .inr (0, 160, fun _ => 0), .inr (0, 161, fun _ => 0), .inr (0, 161, fun _ => 0), .inr (0, 161, fun _ => 0), .inl (2, [15, 21, 0, 0, 0]), .inl (6, [22, 23, 0]), .inr (0, 160, fun _ => 0), .inr (0, 4, fun _ => 0), .inr (2, 6, fun i => 42 + 3 * i), .inl (0, [26, 24, 32, 33, 34, 35, 36, 37, 38, 39, 40, 41, 0, 0, 0, 0, 0]), .inl (4, [27, 28, 29, 30, 31, 0, 0]), .inr (0, 6, fun _ => 0), .inr (0, 6, fun _ => 0), .inr (0, 6, fun _ => 0), .inr (0, 6, fun _ => 0), .inr (0, 6, fun _ => 0), .inr (0, 160, fun _ => 0), .inr (0, 6, fun _ => 0), .inr (0, 6, fun _ => 0), .inr (0, 6, fun _ => 0), .inr (0, 6, fun _ => 0), .inr (0, 6, fun _ => 0), .inr (0, 6, fun _ => 0), .inr (0, 6, fun _ => 0), .inr (0, 6, fun _ => 0), .inr (0, 6, fun _ => 0), .inl (1, [0, 0, 0, 0]), .inr (3, 4, fun i => 60 + 2 * i), .inl (6, [45, 46, 0]), .inr (0, 160, fun _ => 0), .inr (0, 4, fun _ => 0), .inl (6, [48, 49, 0]), .inr (0, 160, fun _ => 0), .inr (0, 4, fun _ => 0), .inl (6, [51, 52, 0]), .inr (0, 160, fun _ => 0), .inr (0, 4, fun _ => 0), .inl (6, [54, 55, 0]), .inr (0, 160, fun _ => 0), .inr (0, 4, fun _ => 0), .inl (6, [57, 58, 0]), .inr (0, 160, fun _ => 0), .inr (0, 4, fun _ => 0), .inl (6, [60, 61, 0]), .inr (0, 160, fun _ => 0), .inr (0, 4, fun _ => 0), .inl (3, [63, 0, 0]), .inr (0, 40, fun _ => 0), .inl (3, [65, 0, 0]), .inr (0, 40, fun _ => 0), .inl (3, [67, 0, 0]), .inr (0, 40, fun _ => 0), .inl (3, [69, 0, 0]), .inr (0, 40, fun _ => 0)]
theorem lx_0 : layX[0]? = some (.inl (7, [3, 9, 0, 15, 20, 24, 0, 25, 42, 43])) := rfl
theorem lx_1 : layX[1]? = some (.inl (4, [4, 5, 6, 7, 8, 0, 0])) := rfl
theorem lx_2 : layX[2]? = some (.inr (0, 6, fun _ => 0)) := rfl
theorem lx_3 : layX[3]? = some (.inr (0, 6, fun _ => 0)) := rfl
theorem lx_4 : layX[4]? = some (.inr (0, 6, fun _ => 0)) := rfl
theorem lx_5 : layX[5]? = some (.inr (0, 6, fun _ => 0)) := rfl
theorem lx_6 : layX[6]? = some (.inr (0, 6, fun _ => 0)) := rfl
theorem lx_7 : layX[7]? = some (.inl (4, [10, 11, 12, 13, 14, 0, 0])) := rfl
theorem lx_8 : layX[8]? = some (.inr (0, 6, fun _ => 0)) := rfl
theorem lx_9 : layX[9]? = some (.inr (0, 6, fun _ => 0)) := rfl
theorem lx_10 : layX[10]? = some (.inr (0, 6, fun _ => 0)) := rfl
theorem lx_11 : layX[11]? = some (.inr (0, 6, fun _ => 0)) := rfl
theorem lx_12 : layX[12]? = some (.inr (0, 6, fun _ => 0)) := rfl
theorem lx_13 : layX[13]? = some (.inl (5, [16, 0, 17, 18, 19, 0])) := rfl
theorem lx_14 : layX[14]? = some (.inr (0, 160, fun _ => 0)) := rfl
theorem lx_15 : layX[15]? = some (.inr (0, 161, fun _ => 0)) := rfl
theorem lx_16 : layX[16]? = some (.inr (0, 161, fun _ => 0)) := rfl
theorem lx_17 : layX[17]? = some (.inr (0, 161, fun _ => 0)) := rfl
theorem lx_18 : layX[18]? = some (.inl (2, [15, 21, 0, 0, 0])) := rfl
theorem lx_19 : layX[19]? = some (.inl (6, [22, 23, 0])) := rfl
theorem lx_20 : layX[20]? = some (.inr (0, 160, fun _ => 0)) := rfl
theorem lx_21 : layX[21]? = some (.inr (0, 4, fun _ => 0)) := rfl
theorem lx_22 : layX[22]? = some (.inr (2, 6, fun i => 42 + 3 * i)) := rfl
theorem lx_23 : layX[23]? = some (.inl (0, [26, 24, 32, 33, 34, 35, 36, 37, 38, 39, 40, 41, 0, 0, 0, 0, 0])) := rfl
theorem lx_24 : layX[24]? = some (.inl (4, [27, 28, 29, 30, 31, 0, 0])) := rfl
theorem lx_25 : layX[25]? = some (.inr (0, 6, fun _ => 0)) := rfl
theorem lx_26 : layX[26]? = some (.inr (0, 6, fun _ => 0)) := rfl
theorem lx_27 : layX[27]? = some (.inr (0, 6, fun _ => 0)) := rfl
theorem lx_28 : layX[28]? = some (.inr (0, 6, fun _ => 0)) := rfl
theorem lx_29 : layX[29]? = some (.inr (0, 6, fun _ => 0)) := rfl
theorem lx_30 : layX[30]? = some (.inr (0, 160, fun _ => 0)) := rfl
theorem lx_31 : layX[31]? = some (.inr (0, 6, fun _ => 0)) := rfl
theorem lx_32 : layX[32]? = some (.inr (0, 6, fun _ => 0)) := rfl
theorem lx_33 : layX[33]? = some (.inr (0, 6, fun _ => 0)) := rfl
theorem lx_34 : layX[34]? = some (.inr (0, 6, fun _ => 0)) := rfl
theorem lx_35 : layX[35]? = some (.inr (0, 6, fun _ => 0)) := rfl
theorem lx_36 : layX[36]? = some (.inr (0, 6, fun _ => 0)) := rfl
theorem lx_37 : layX[37]? = some (.inr (0, 6, fun _ => 0)) := rfl
theorem lx_38 : layX[38]? = some (.inr (0, 6, fun _ => 0)) := rfl
theorem lx_39 : layX[39]? = some (.inr (0, 6, fun _ => 0)) := rfl
theorem lx_40 : layX[40]? = some (.inl (1, [0, 0, 0, 0])) := rfl
theorem lx_41 : layX[41]? = some (.inr (3, 4, fun i => 60 + 2 * i)) := rfl
theorem lx_42 : layX[42]? = some (.inl (6, [45, 46, 0])) := rfl
theorem lx_43 : layX[43]? = some (.inr (0, 160, fun _ => 0)) := rfl
theorem lx_44 : layX[44]? = some (.inr (0, 4, fun _ => 0)) := rfl
theorem lx_45 : layX[45]? = some (.inl (6, [48, 49, 0])) := rfl
theorem lx_46 : layX[46]? = some (.inr (0, 160, fun _ => 0)) := rfl
theorem lx_47 : layX[47]? = some (.inr (0, 4, fun _ => 0)) := rfl
theorem lx_48 : layX[48]? = some (.inl (6, [51, 52, 0])) := rfl
theorem lx_49 : layX[49]? = some (.inr (0, 160, fun _ => 0)) := rfl
theorem lx_50 : layX[50]? = some (.inr (0, 4, fun _ => 0)) := rfl
theorem lx_51 : layX[51]? = some (.inl (6, [54, 55, 0])) := rfl
theorem lx_52 : layX[52]? = some (.inr (0, 160, fun _ => 0)) := rfl
theorem lx_53 : layX[53]? = some (.inr (0, 4, fun _ => 0)) := rfl
theorem lx_54 : layX[54]? = some (.inl (6, [57, 58, 0])) := rfl
theorem lx_55 : layX[55]? = some (.inr (0, 160, fun _ => 0)) := rfl
theorem lx_56 : layX[56]? = some (.inr (0, 4, fun _ => 0)) := rfl
theorem lx_57 : layX[57]? = some (.inl (6, [60, 61, 0])) := rfl
theorem lx_58 : layX[58]? = some (.inr (0, 160, fun _ => 0)) := rfl
theorem lx_59 : layX[59]? = some (.inr (0, 4, fun _ => 0)) := rfl
theorem lx_60 : layX[60]? = some (.inl (3, [63, 0, 0])) := rfl
theorem lx_61 : layX[61]? = some (.inr (0, 40, fun _ => 0)) := rfl
theorem lx_62 : layX[62]? = some (.inl (3, [65, 0, 0])) := rfl
theorem lx_63 : layX[63]? = some (.inr (0, 40, fun _ => 0)) := rfl
theorem lx_64 : layX[64]? = some (.inl (3, [67, 0, 0])) := rfl
theorem lx_65 : layX[65]? = some (.inr (0, 40, fun _ => 0)) := rfl
theorem lx_66 : layX[66]? = some (.inl (3, [69, 0, 0])) := rfl
theorem lx_67 : layX[67]? = some (.inr (0, 40, fun _ => 0)) := rfl
def layM : List LD := [.inl (8, [0, 3, 4, 0, 0, 5, 0, 6, 7, 8, 9, 10, 0, 0, 0, 0, 0, 0, 0, 0, 0, 0, 0, 0, 1, 0, 0, 0, 11, 0, 12, 13, 14, 15, 16, 17, 18, 0, 0, 0, 0, 0, 0, 0, 0, 19, 20, 0, 0, 21, 22, 23, 24]), .inr (0, 960, fun _ => 0), .inr (0, 6, fun _ => 0), .inr (0, 160, fun _ => 0), .inr (0, 6, fun _ => 0), .inr (0, 6, fun _ => 0), .inr (0, 6, fun _ => 0), .inr (0, 6, fun _ => 0), .inr (0, 6, fun _ => 0), .inr (0, 6, fun _ => 0), .inr (0, 6, fun _ => 0), .inr (0, 6, fun _ => 0), .inr (0, 6, fun _ => 0), .inr (0, 6, fun _ => 0), .inr (0, 6, fun _ => 0), .inr (0, 6, fun _ => 0), .inr (0, 6, fun _ => 0), .inr (0, 6, fun _ => 0), .inr (0, 18, fun _ => 0), .inr (1, 4, fun _ => 0), .inr (0, 4, fun _ => 0), .inr (0, 4, fun _ => 0), .inr (0, 160, fun _ => 0)]
theorem lm_0 : layM[0]? = some (.inl (8, [0, 3, 4, 0, 0, 5, 0, 6, 7, 8, 9, 10, 0, 0, 0, 0, 0, 0, 0, 0, 0, 0, 0, 0, 1, 0, 0, 0, 11, 0, 12, 13, 14, 15, 16, 17, 18, 0, 0, 0, 0, 0, 0, 0, 0, 19, 20, 0, 0, 21, 22, 23, 24])) := rfl
theorem lm_1 : layM[1]? = some (.inr (0, 960, fun _ => 0)) := rfl
theorem lm_2 : layM[2]? = some (.inr (0, 6, fun _ => 0)) := rfl
theorem lm_3 : layM[3]? = some (.inr (0, 160, fun _ => 0)) := rfl
theorem lm_4 : layM[4]? = some (.inr (0, 6, fun _ => 0)) := rfl
theorem lm_5 : layM[5]? = some (.inr (0, 6, fun _ => 0)) := rfl
theorem lm_6 : layM[6]? = some (.inr (0, 6, fun _ => 0)) := rfl
theorem lm_7 : layM[7]? = some (.inr (0, 6, fun _ => 0)) := rfl
theorem lm_8 : layM[8]? = some (.inr (0, 6, fun _ => 0)) := rfl
theorem lm_9 : layM[9]? = some (.inr (0, 6, fun _ => 0)) := rfl
theorem lm_10 : layM[10]? = some (.inr (0, 6, fun _ => 0)) := rfl
theorem lm_11 : layM[11]? = some (.inr (0, 6, fun _ => 0)) := rfl
theorem lm_12 : layM[12]? = some (.inr (0, 6, fun _ => 0)) := rfl
theorem lm_13 : layM[13]? = some (.inr (0, 6, fun _ => 0)) := rfl
theorem lm_14 : layM[14]? = some (.inr (0, 6, fun _ => 0)) := rfl
theorem lm_15 : layM[15]? = some (.inr (0, 6, fun _ => 0)) := rfl
theorem lm_16 : layM[16]? = some (.inr (0, 6, fun _ => 0)) := rfl
theorem lm_17 : layM[17]? = some (.inr (0, 6, fun _ => 0)) := rfl
theorem lm_18 : layM[18]? = some (.inr (0, 18, fun _ => 0)) := rfl
theorem lm_19 : layM[19]? = some (.inr (1, 4, fun _ => 0)) := rfl
theorem lm_20 : layM[20]? = some (.inr (0, 4, fun _ => 0)) := rfl
theorem lm_21 : layM[21]? = some (.inr (0, 4, fun _ => 0)) := rfl
theorem lm_22 : layM[22]? = some (.inr (0, 160, fun _ => 0)) := rfl
def isSite (t : Nat) : Prop := t = 1 ∨ t = 7 ∨ t = 24
def isText (t : Nat) : Prop := t = 19 ∨ ∃ i : Nat, i < 6 ∧ t = 42 + 3 * i
def isSheet (t : Nat) : Prop := ∃ i : Nat, i < 4 ∧ t = 60 + 2 * i
theorem lxSite {t : Nat} (h : isSite t) : layX[t]? = some (.inl (4, [t + 1 + 2, t + 2 + 2, t + 3 + 2, t + 4 + 2, t + 5 + 2, 0, 0])) := by rcases h with rfl | rfl | rfl <;> rfl
theorem lxSite1 {t : Nat} (h : isSite t) : layX[t + 1]? = some (.inr (0, 6, fun _ => 0)) := by rcases h with rfl | rfl | rfl <;> rfl
theorem lxSite2 {t : Nat} (h : isSite t) : layX[t + 2]? = some (.inr (0, 6, fun _ => 0)) := by rcases h with rfl | rfl | rfl <;> rfl
theorem lxSite3 {t : Nat} (h : isSite t) : layX[t + 3]? = some (.inr (0, 6, fun _ => 0)) := by rcases h with rfl | rfl | rfl <;> rfl
theorem lxSite4 {t : Nat} (h : isSite t) : layX[t + 4]? = some (.inr (0, 6, fun _ => 0)) := by rcases h with rfl | rfl | rfl <;> rfl
theorem lxSite5 {t : Nat} (h : isSite t) : layX[t + 5]? = some (.inr (0, 6, fun _ => 0)) := by rcases h with rfl | rfl | rfl <;> rfl
theorem isText_c {P : Nat → Prop} (h0 : P 19) (h1 : P 42) (h2 : P 45) (h3 : P 48) (h4 : P 51) (h5 : P 54) (h6 : P 57) {t : Nat} (h : isText t) : P t := by
  rcases h with rfl | ⟨i, hi, rfl⟩
  · exact h0
  · match i, hi with
    | 0, _ => exact h1
    | 1, _ => exact h2
    | 2, _ => exact h3
    | 3, _ => exact h4
    | 4, _ => exact h5
    | 5, _ => exact h6
theorem lxText {t : Nat} (h : isText t) : layX[t]? = some (.inl (6, [t + 1 + 2, t + 2 + 2, 0])) := isText_c (P := fun t => layX[t]? = some (.inl (6, [t + 1 + 2, t + 2 + 2, 0]))) rfl rfl rfl rfl rfl rfl rfl h
theorem lxText1 {t : Nat} (h : isText t) : layX[t + 1]? = some (.inr (0, 160, fun _ => 0)) := isText_c (P := fun t => layX[t + 1]? = some (.inr (0, 160, fun _ => 0))) rfl rfl rfl rfl rfl rfl rfl h
theorem lxText2 {t : Nat} (h : isText t) : layX[t + 2]? = some (.inr (0, 4, fun _ => 0)) := isText_c (P := fun t => layX[t + 2]? = some (.inr (0, 4, fun _ => 0))) rfl rfl rfl rfl rfl rfl rfl h
theorem isSheet_c {P : Nat → Prop} (h0 : P 60) (h1 : P 62) (h2 : P 64) (h3 : P 66) {t : Nat} (h : isSheet t) : P t := by
  obtain ⟨i, hi, rfl⟩ := h
  match i, hi with
  | 0, _ => exact h0
  | 1, _ => exact h1
  | 2, _ => exact h2
  | 3, _ => exact h3
theorem lxSheet {t : Nat} (h : isSheet t) : layX[t]? = some (.inl (3, [t + 1 + 2, 0, 0])) := isSheet_c (P := fun t => layX[t]? = some (.inl (3, [t + 1 + 2, 0, 0]))) rfl rfl rfl rfl h
theorem lxSheet1 {t : Nat} (h : isSheet t) : layX[t + 1]? = some (.inr (0, 40, fun _ => 0)) := isSheet_c (P := fun t => layX[t + 1]? = some (.inr (0, 40, fun _ => 0))) rfl rfl rfl rfl h
theorem vp_lt {i : Int32} {n : Nat} (h : vp_in i n) : i.toNatClampNeg < n := Nat.not_le.mp fun q => h (Or.inr q)
theorem isText_in {i : Int32} (h : vp_in i 6) : isText (42 + 3 * i.toNatClampNeg) := Or.inr ⟨_, vp_lt h, rfl⟩
theorem isSheet_in {i : Int32} (h : vp_in i 4) : isSheet (60 + 2 * i.toNatClampNeg) := ⟨_, vp_lt h, rfl⟩
theorem ic_m1 : Int32.ofInt (-1) = (-1 : Int32) := by decide
theorem ic_0 : Int32.ofInt 0 = (0 : Int32) := by decide
theorem ic_1 : Int32.ofInt 1 = (1 : Int32) := by decide
theorem ic_2 : Int32.ofInt 2 = (2 : Int32) := by decide
theorem ic_3 : Int32.ofInt 3 = (3 : Int32) := by decide
theorem ic_4 : Int32.ofInt 4 = (4 : Int32) := by decide
theorem ic_5 : Int32.ofInt 5 = (5 : Int32) := by decide
theorem bp_m100 : (Int8.ofInt (-100)).toInt32 = (-100 : Int32) := by decide
theorem bp_m42 : (Int8.ofInt (-42)).toInt32 = (-42 : Int32) := by decide
theorem bp_m16 : (Int8.ofInt (-16)).toInt32 = (-16 : Int32) := by decide
theorem bp_m14 : (Int8.ofInt (-14)).toInt32 = (-14 : Int32) := by decide
theorem bp_m13 : (Int8.ofInt (-13)).toInt32 = (-13 : Int32) := by decide
theorem bp_m12 : (Int8.ofInt (-12)).toInt32 = (-12 : Int32) := by decide
theorem bp_m11 : (Int8.ofInt (-11)).toInt32 = (-11 : Int32) := by decide
theorem bp_m10 : (Int8.ofInt (-10)).toInt32 = (-10 : Int32) := by decide
theorem bp_m6 : (Int8.ofInt (-6)).toInt32 = (-6 : Int32) := by decide
theorem bp_m4 : (Int8.ofInt (-4)).toInt32 = (-4 : Int32) := by decide
theorem bp_m3 : (Int8.ofInt (-3)).toInt32 = (-3 : Int32) := by decide
theorem bp_m2 : (Int8.ofInt (-2)).toInt32 = (-2 : Int32) := by decide
theorem bp_6 : (Int8.ofInt 6).toInt32 = (6 : Int32) := by decide
theorem bp_7 : (Int8.ofInt 7).toInt32 = (7 : Int32) := by decide
theorem bp_8 : (Int8.ofInt 8).toInt32 = (8 : Int32) := by decide
theorem bp_9 : (Int8.ofInt 9).toInt32 = (9 : Int32) := by decide
theorem bp_10 : (Int8.ofInt 10).toInt32 = (10 : Int32) := by decide
theorem bp_11 : (Int8.ofInt 11).toInt32 = (11 : Int32) := by decide
theorem bp_12 : (Int8.ofInt 12).toInt32 = (12 : Int32) := by decide
theorem bp_13 : (Int8.ofInt 13).toInt32 = (13 : Int32) := by decide
theorem bp_14 : (Int8.ofInt 14).toInt32 = (14 : Int32) := by decide
theorem bp_15 : (Int8.ofInt 15).toInt32 = (15 : Int32) := by decide
theorem bp_16 : (Int8.ofInt 16).toInt32 = (16 : Int32) := by decide
theorem bp_17 : (Int8.ofInt 17).toInt32 = (17 : Int32) := by decide
theorem bp_18 : (Int8.ofInt 18).toInt32 = (18 : Int32) := by decide
theorem bp_20 : (Int8.ofInt 20).toInt32 = (20 : Int32) := by decide
theorem bp_24 : (Int8.ofInt 24).toInt32 = (24 : Int32) := by decide
theorem bp_30 : (Int8.ofInt 30).toInt32 = (30 : Int32) := by decide
theorem bp_31 : (Int8.ofInt 31).toInt32 = (31 : Int32) := by decide
theorem bp_32 : (Int8.ofInt 32).toInt32 = (32 : Int32) := by decide
theorem bp_40 : (Int8.ofInt 40).toInt32 = (40 : Int32) := by decide
theorem bp_41 : (Int8.ofInt 41).toInt32 = (41 : Int32) := by decide
theorem bp_42 : (Int8.ofInt 42).toInt32 = (42 : Int32) := by decide
theorem bp_43 : (Int8.ofInt 43).toInt32 = (43 : Int32) := by decide
theorem bp_45 : (Int8.ofInt 45).toInt32 = (45 : Int32) := by decide
theorem bp_48 : (Int8.ofInt 48).toInt32 = (48 : Int32) := by decide
theorem bp_50 : (Int8.ofInt 50).toInt32 = (50 : Int32) := by decide
theorem bp_52 : (Int8.ofInt 52).toInt32 = (52 : Int32) := by decide
theorem bp_54 : (Int8.ofInt 54).toInt32 = (54 : Int32) := by decide
theorem bp_56 : (Int8.ofInt 56).toInt32 = (56 : Int32) := by decide
theorem bp_57 : (Int8.ofInt 57).toInt32 = (57 : Int32) := by decide
theorem bp_59 : (Int8.ofInt 59).toInt32 = (59 : Int32) := by decide
theorem bp_60 : (Int8.ofInt 60).toInt32 = (60 : Int32) := by decide
theorem bp_61 : (Int8.ofInt 61).toInt32 = (61 : Int32) := by decide
theorem bp_63 : (Int8.ofInt 63).toInt32 = (63 : Int32) := by decide
theorem bp_64 : (Int8.ofInt 64).toInt32 = (64 : Int32) := by decide
theorem bp_72 : (Int8.ofInt 72).toInt32 = (72 : Int32) := by decide
theorem bp_80 : (Int8.ofInt 80).toInt32 = (80 : Int32) := by decide
theorem bp_97 : (Int8.ofInt 97).toInt32 = (97 : Int32) := by decide
theorem bp_98 : (Int8.ofInt 98).toInt32 = (98 : Int32) := by decide
theorem bp_99 : (Int8.ofInt 99).toInt32 = (99 : Int32) := by decide
theorem bp_100 : (Int8.ofInt 100).toInt32 = (100 : Int32) := by decide
theorem bp_101 : (Int8.ofInt 101).toInt32 = (101 : Int32) := by decide
theorem bp_102 : (Int8.ofInt 102).toInt32 = (102 : Int32) := by decide
theorem bp_103 : (Int8.ofInt 103).toInt32 = (103 : Int32) := by decide
theorem bp_105 : (Int8.ofInt 105).toInt32 = (105 : Int32) := by decide
theorem bp_107 : (Int8.ofInt 107).toInt32 = (107 : Int32) := by decide
theorem bp_108 : (Int8.ofInt 108).toInt32 = (108 : Int32) := by decide
theorem bp_109 : (Int8.ofInt 109).toInt32 = (109 : Int32) := by decide
theorem bp_110 : (Int8.ofInt 110).toInt32 = (110 : Int32) := by decide
theorem bp_111 : (Int8.ofInt 111).toInt32 = (111 : Int32) := by decide
theorem bp_112 : (Int8.ofInt 112).toInt32 = (112 : Int32) := by decide
theorem bp_114 : (Int8.ofInt 114).toInt32 = (114 : Int32) := by decide
theorem bp_115 : (Int8.ofInt 115).toInt32 = (115 : Int32) := by decide
theorem bp_116 : (Int8.ofInt 116).toInt32 = (116 : Int32) := by decide
theorem bp_117 : (Int8.ofInt 117).toInt32 = (117 : Int32) := by decide
theorem bp_119 : (Int8.ofInt 119).toInt32 = (119 : Int32) := by decide
theorem bp_121 : (Int8.ofInt 121).toInt32 = (121 : Int32) := by decide
theorem bp_122 : (Int8.ofInt 122).toInt32 = (122 : Int32) := by decide
theorem sp_160 : (Int16.ofInt 160).toInt32 = (160 : Int32) := by decide
theorem sp_161 : (Int16.ofInt 161).toInt32 = (161 : Int32) := by decide
theorem sp_240 : (Int16.ofInt 240).toInt32 = (240 : Int32) := by decide
theorem sp_255 : (Int16.ofInt 255).toInt32 = (255 : Int32) := by decide
theorem sp_720 : (Int16.ofInt 720).toInt32 = (720 : Int32) := by decide
theorem sp_960 : (Int16.ofInt 960).toInt32 = (960 : Int32) := by decide
theorem sp_999 : (Int16.ofInt 999).toInt32 = (999 : Int32) := by decide
theorem sp_1023 : (Int16.ofInt 1023).toInt32 = (1023 : Int32) := by decide
theorem sp_4000 : (Int16.ofInt 4000).toInt32 = (4000 : Int32) := by decide
theorem sp_12345 : (Int16.ofInt 12345).toInt32 = (12345 : Int32) := by decide
theorem ii_m1 : Int32.ofInt (-1) = (-1 : Int32) := by decide
theorem ii_1 : Int32.ofInt 1 = (1 : Int32) := by decide
theorem ii_6 : Int32.ofInt 6 = (6 : Int32) := by decide
theorem lc_0 : Int64.ofNat ((0 : Fin 2) : Nat) = (0 : Int64) := by decide
theorem lc_1 : Int64.ofNat ((1 : Fin 2) : Nat) = (1 : Int64) := by decide
theorem gt_list {ws : List Cond} (ps : List Nat) (h : ws = ps.filterMap (fun i => lw_tbl[i]?)) (g : ws.all goodWord = true) : ∀ w ∈ ws, w ∈ gt := by
  intro w hw
  have h1 := List.all_eq_true.mp g w hw
  rw [h] at hw
  obtain ⟨i, -, hi⟩ := List.mem_filterMap.mp hw
  exact gt_of i hi h1
theorem gc_X0 : ∀ w ∈ u_ws RX0 TX0 17, w ∈ gt := gt_list [259, 261, 263, 265, 267, 269, 271, 273, 275, 277, 279, 281, 283, 285, 287, 289, 291] (by decide +kernel) (by decide +kernel)
theorem gc_X2 : ∀ w ∈ u_ws RX2 TX2 4, w ∈ gt := gt_list [307, 309, 311, 313] (by decide +kernel) (by decide +kernel)
theorem gc_X3 : ∀ w ∈ u_ws RX3 TX3 5, w ∈ gt := gt_list [210, 212, 214, 216, 218] (by decide +kernel) (by decide +kernel)
theorem gc_X4 : ∀ w ∈ u_ws RX4 TX4 3, w ∈ gt := gt_list [331, 333, 335] (by decide +kernel) (by decide +kernel)
theorem gc_X5 : ∀ w ∈ u_ws RX5 TX5 7, w ∈ gt := gt_list [135, 137, 139, 141, 143, 145, 147] (by decide +kernel) (by decide +kernel)
theorem gc_X6 : ∀ w ∈ u_ws RX6 TX6 6, w ∈ gt := gt_list [169, 171, 173, 175, 177, 179] (by decide +kernel) (by decide +kernel)
theorem gc_X7 : ∀ w ∈ u_ws RX7 TX7 3, w ∈ gt := gt_list [197, 199, 201] (by decide +kernel) (by decide +kernel)
theorem gc_X8 : ∀ w ∈ u_ws RX8 TX8 10, w ∈ gt := gt_list [596, 598, 600, 602, 604, 606, 608, 610, 612, 614] (by decide +kernel) (by decide +kernel)
theorem gc_X9 : ∀ w ∈ u_ws RX9 TX9 53, w ∈ gt := gt_list [1014, 1016, 1018, 1020, 1022, 1024, 1026, 1028, 1030, 1032, 1034, 1036, 1038, 1040, 1042, 1044, 1046, 1048, 1050, 1052, 1054, 1056, 1058, 1060, 1062, 1064, 1066, 1068, 1070, 1072, 1074, 1076, 1078, 1080, 1082, 1084, 1086, 1088, 1090, 1092, 1094, 1096, 1098, 1100, 1102, 1104, 1106, 1108, 1110, 1112, 1114, 1116, 1118] (by decide +kernel) (by decide +kernel)
theorem fl_X8_10 : FL RX8 10 7 0 := ⟨RX8, TX8, 10, rfl, by decide, gc_X8, Or.inl (gt_of 586 (by decide +kernel) rfl)⟩
theorem fl_X8_16 : FL RX8 16 7 1 := ⟨RX8, TX8, 10, rfl, by decide, gc_X8, Or.inl (gt_of 587 (by decide +kernel) rfl)⟩
theorem fl_X8_19 : FL RX8 19 7 2 := ⟨RX8, TX8, 10, rfl, by decide, gc_X8, Or.inl (gt_of 588 (by decide +kernel) rfl)⟩
theorem fp_X8_19 : FP RX8 19 7 2 .boolean := ⟨RX8, TX8, 10, tyX8, rfl, by decide, gc_X8, Or.inl (gt_of 588 (by decide +kernel) rfl), tyX8_ok, nmX8, rfl, by decide +kernel⟩
theorem fl_X8_26 : FL RX8 26 7 3 := ⟨RX8, TX8, 10, rfl, by decide, gc_X8, Or.inl (gt_of 589 (by decide +kernel) rfl)⟩
theorem fl_X8_35 : FL RX8 35 7 4 := ⟨RX8, TX8, 10, rfl, by decide, gc_X8, Or.inl (gt_of 590 (by decide +kernel) rfl)⟩
theorem fl_X8_41 : FL RX8 41 7 5 := ⟨RX8, TX8, 10, rfl, by decide, gc_X8, Or.inl (gt_of 591 (by decide +kernel) rfl)⟩
theorem fl_X8_45 : FL RX8 45 7 6 := ⟨RX8, TX8, 10, rfl, by decide, gc_X8, Or.inl (gt_of 592 (by decide +kernel) rfl)⟩
theorem fp_X8_45 : FP RX8 45 7 6 .int := ⟨RX8, TX8, 10, tyX8, rfl, by decide, gc_X8, Or.inl (gt_of 592 (by decide +kernel) rfl), tyX8_ok, nmX8, rfl, by decide +kernel⟩
theorem fl_X8_54 : FL RX8 54 7 7 := ⟨RX8, TX8, 10, rfl, by decide, gc_X8, Or.inl (gt_of 593 (by decide +kernel) rfl)⟩
theorem fl_X8_61 : FL RX8 61 7 8 := ⟨RX8, TX8, 10, rfl, by decide, gc_X8, Or.inl (gt_of 594 (by decide +kernel) rfl)⟩
theorem fl_X8_67 : FL RX8 67 7 9 := ⟨RX8, TX8, 10, rfl, by decide, gc_X8, Or.inl (gt_of 595 (by decide +kernel) rfl)⟩
theorem fl_X8_113 : FL RX8 113 4 1 := ⟨RX5, TX5, 7, rfl, by decide, gc_X5, Or.inr ⟨"BeforeItGoes", nw_of 119 (by decide +kernel) rfl⟩⟩
theorem fl_X8_116 : FL RX8 116 4 2 := ⟨RX5, TX5, 7, rfl, by decide, gc_X5, Or.inr ⟨"BeforeItGoes", nw_of 122 (by decide +kernel) rfl⟩⟩
theorem fl_X8_119 : FL RX8 119 4 3 := ⟨RX5, TX5, 7, rfl, by decide, gc_X5, Or.inr ⟨"BeforeItGoes", nw_of 125 (by decide +kernel) rfl⟩⟩
theorem fl_X8_122 : FL RX8 122 4 4 := ⟨RX5, TX5, 7, rfl, by decide, gc_X5, Or.inr ⟨"BeforeItGoes", nw_of 128 (by decide +kernel) rfl⟩⟩
theorem fl_X8_135 : FL RX8 135 0 5 := ⟨RX0, TX0, 17, rfl, by decide, gc_X0, Or.inr ⟨"BeforeItGoes", nw_of 238 (by decide +kernel) rfl⟩⟩
theorem fl_X8_138 : FL RX8 138 0 6 := ⟨RX0, TX0, 17, rfl, by decide, gc_X0, Or.inr ⟨"BeforeItGoes", nw_of 240 (by decide +kernel) rfl⟩⟩
theorem fl_X8_141 : FL RX8 141 0 7 := ⟨RX0, TX0, 17, rfl, by decide, gc_X0, Or.inr ⟨"BeforeItGoes", nw_of 242 (by decide +kernel) rfl⟩⟩
theorem fl_X8_150 : FL RX8 150 2 1 := ⟨RX3, TX3, 5, rfl, by decide, gc_X3, Or.inr ⟨"BeforeItGoes", nw_of 206 (by decide +kernel) rfl⟩⟩
theorem fl_X8_158 : FL RX8 158 4 6 := ⟨RX5, TX5, 7, rfl, by decide, gc_X5, Or.inr ⟨"BeforeItGoes", nw_of 134 (by decide +kernel) rfl⟩⟩
theorem fp_X8_158 : FP RX8 158 4 6 .int := ⟨RX5, TX5, 7, tyX5, rfl, by decide, gc_X5, Or.inr ⟨"BeforeItGoes", nw_of 134 (by decide +kernel) rfl⟩, tyX5_ok, nmX5, rfl, by decide +kernel⟩
theorem fl_X8_183 : FL RX8 183 3 2 := ⟨RX4, TX4, 3, rfl, by decide, gc_X4, Or.inr ⟨"BeforeItGoes", nw_of 330 (by decide +kernel) rfl⟩⟩
theorem fp_X8_183 : FP RX8 183 3 2 .int := ⟨RX4, TX4, 3, tyX4, rfl, by decide, gc_X4, Or.inr ⟨"BeforeItGoes", nw_of 330 (by decide +kernel) rfl⟩, tyX4_ok, nmX4, rfl, by decide +kernel⟩
theorem fl_X8_186 : FL RX8 186 4 5 := ⟨RX5, TX5, 7, rfl, by decide, gc_X5, Or.inr ⟨"BeforeItGoes", nw_of 131 (by decide +kernel) rfl⟩⟩
theorem fp_X8_186 : FP RX8 186 4 5 .int := ⟨RX5, TX5, 7, tyX5, rfl, by decide, gc_X5, Or.inr ⟨"BeforeItGoes", nw_of 131 (by decide +kernel) rfl⟩, tyX5_ok, nmX5, rfl, by decide +kernel⟩
theorem fl_X8_187 : FL RX8 187 3 0 := ⟨RX4, TX4, 3, rfl, by decide, gc_X4, Or.inr ⟨"BeforeItGoes", nw_of 325 (by decide +kernel) rfl⟩⟩
theorem fl_X8_194 : FL RX8 194 0 16 := ⟨RX0, TX0, 17, rfl, by decide, gc_X0, Or.inr ⟨"BeforeItGoes", nw_of 258 (by decide +kernel) rfl⟩⟩
theorem fp_X8_194 : FP RX8 194 0 16 .int := ⟨RX0, TX0, 17, tyX0, rfl, by decide, gc_X0, Or.inr ⟨"BeforeItGoes", nw_of 258 (by decide +kernel) rfl⟩, tyX0_ok, nmX0, rfl, by decide +kernel⟩
theorem fl_X8_197 : FL RX8 197 0 14 := ⟨RX0, TX0, 17, rfl, by decide, gc_X0, Or.inr ⟨"BeforeItGoes", nw_of 254 (by decide +kernel) rfl⟩⟩
theorem fp_X8_197 : FP RX8 197 0 14 .int := ⟨RX0, TX0, 17, tyX0, rfl, by decide, gc_X0, Or.inr ⟨"BeforeItGoes", nw_of 254 (by decide +kernel) rfl⟩, tyX0_ok, nmX0, rfl, by decide +kernel⟩
theorem fl_X8_200 : FL RX8 200 0 15 := ⟨RX0, TX0, 17, rfl, by decide, gc_X0, Or.inr ⟨"BeforeItGoes", nw_of 256 (by decide +kernel) rfl⟩⟩
theorem fp_X8_200 : FP RX8 200 0 15 .int := ⟨RX0, TX0, 17, tyX0, rfl, by decide, gc_X0, Or.inr ⟨"BeforeItGoes", nw_of 256 (by decide +kernel) rfl⟩, tyX0_ok, nmX0, rfl, by decide +kernel⟩
theorem fl_X8_212 : FL RX8 212 0 8 := ⟨RX0, TX0, 17, rfl, by decide, gc_X0, Or.inr ⟨"BeforeItGoes", nw_of 244 (by decide +kernel) rfl⟩⟩
theorem fl_X8_215 : FL RX8 215 0 9 := ⟨RX0, TX0, 17, rfl, by decide, gc_X0, Or.inr ⟨"BeforeItGoes", nw_of 246 (by decide +kernel) rfl⟩⟩
theorem fl_X8_218 : FL RX8 218 0 10 := ⟨RX0, TX0, 17, rfl, by decide, gc_X0, Or.inr ⟨"BeforeItGoes", nw_of 248 (by decide +kernel) rfl⟩⟩
theorem fl_X8_221 : FL RX8 221 0 11 := ⟨RX0, TX0, 17, rfl, by decide, gc_X0, Or.inr ⟨"BeforeItGoes", nw_of 250 (by decide +kernel) rfl⟩⟩
theorem fl_X8_224 : FL RX8 224 0 0 := ⟨RX0, TX0, 17, rfl, by decide, gc_X0, Or.inr ⟨"BeforeItGoes", nw_of 232 (by decide +kernel) rfl⟩⟩
theorem fl_X8_242 : FL RX8 242 1 2 := ⟨RX2, TX2, 4, rfl, by decide, gc_X2, Or.inr ⟨"BeforeItGoes", nw_of 304 (by decide +kernel) rfl⟩⟩
theorem fp_X8_242 : FP RX8 242 1 2 .int := ⟨RX2, TX2, 4, tyX2, rfl, by decide, gc_X2, Or.inr ⟨"BeforeItGoes", nw_of 304 (by decide +kernel) rfl⟩, tyX2_ok, nmX2, rfl, by decide +kernel⟩
theorem fl_X8_243 : FL RX8 243 1 3 := ⟨RX2, TX2, 4, rfl, by decide, gc_X2, Or.inr ⟨"BeforeItGoes", nw_of 306 (by decide +kernel) rfl⟩⟩
theorem fp_X8_243 : FP RX8 243 1 3 .int := ⟨RX2, TX2, 4, tyX2, rfl, by decide, gc_X2, Or.inr ⟨"BeforeItGoes", nw_of 306 (by decide +kernel) rfl⟩, tyX2_ok, nmX2, rfl, by decide +kernel⟩
theorem fl_X8_246 : FL RX8 246 1 1 := ⟨RX2, TX2, 4, rfl, by decide, gc_X2, Or.inr ⟨"BeforeItGoes", nw_of 302 (by decide +kernel) rfl⟩⟩
theorem fp_X8_246 : FP RX8 246 1 1 .int := ⟨RX2, TX2, 4, tyX2, rfl, by decide, gc_X2, Or.inr ⟨"BeforeItGoes", nw_of 302 (by decide +kernel) rfl⟩, tyX2_ok, nmX2, rfl, by decide +kernel⟩
theorem fl_X8_293 : FL RX8 293 4 0 := ⟨RX5, TX5, 7, rfl, by decide, gc_X5, Or.inr ⟨"BeforeItGoes", nw_of 116 (by decide +kernel) rfl⟩⟩
theorem fl_X8_296 : FL RX8 296 5 1 := ⟨RX6, TX6, 6, rfl, by decide, gc_X6, Or.inr ⟨"BeforeItGoes", nw_of 160 (by decide +kernel) rfl⟩⟩
theorem fp_X8_296 : FP RX8 296 5 1 .int := ⟨RX6, TX6, 6, tyX6, rfl, by decide, gc_X6, Or.inr ⟨"BeforeItGoes", nw_of 160 (by decide +kernel) rfl⟩, tyX6_ok, nmX6, rfl, by decide +kernel⟩
theorem fl_X8_298 : FL RX8 298 3 1 := ⟨RX4, TX4, 3, rfl, by decide, gc_X4, Or.inr ⟨"BeforeItGoes", nw_of 328 (by decide +kernel) rfl⟩⟩
theorem fp_X8_298 : FP RX8 298 3 1 .int := ⟨RX4, TX4, 3, tyX4, rfl, by decide, gc_X4, Or.inr ⟨"BeforeItGoes", nw_of 328 (by decide +kernel) rfl⟩, tyX4_ok, nmX4, rfl, by decide +kernel⟩
theorem fl_X0_12 : FL RX0 12 0 0 := ⟨RX0, TX0, 17, rfl, by decide, gc_X0, Or.inl (gt_of 231 (by decide +kernel) rfl)⟩
theorem fl_X0_18 : FL RX0 18 0 2 := ⟨RX0, TX0, 17, rfl, by decide, gc_X0, Or.inl (gt_of 234 (by decide +kernel) rfl)⟩
theorem fl_X0_22 : FL RX0 22 0 3 := ⟨RX0, TX0, 17, rfl, by decide, gc_X0, Or.inl (gt_of 235 (by decide +kernel) rfl)⟩
theorem fl_X0_25 : FL RX0 25 0 4 := ⟨RX0, TX0, 17, rfl, by decide, gc_X0, Or.inl (gt_of 236 (by decide +kernel) rfl)⟩
theorem fl_X0_28 : FL RX0 28 0 5 := ⟨RX0, TX0, 17, rfl, by decide, gc_X0, Or.inl (gt_of 237 (by decide +kernel) rfl)⟩
theorem fl_X0_31 : FL RX0 31 0 6 := ⟨RX0, TX0, 17, rfl, by decide, gc_X0, Or.inl (gt_of 239 (by decide +kernel) rfl)⟩
theorem fl_X0_34 : FL RX0 34 0 7 := ⟨RX0, TX0, 17, rfl, by decide, gc_X0, Or.inl (gt_of 241 (by decide +kernel) rfl)⟩
theorem fl_X0_37 : FL RX0 37 0 8 := ⟨RX0, TX0, 17, rfl, by decide, gc_X0, Or.inl (gt_of 243 (by decide +kernel) rfl)⟩
theorem fl_X0_40 : FL RX0 40 0 9 := ⟨RX0, TX0, 17, rfl, by decide, gc_X0, Or.inl (gt_of 245 (by decide +kernel) rfl)⟩
theorem fl_X0_43 : FL RX0 43 0 10 := ⟨RX0, TX0, 17, rfl, by decide, gc_X0, Or.inl (gt_of 247 (by decide +kernel) rfl)⟩
theorem fl_X0_46 : FL RX0 46 0 11 := ⟨RX0, TX0, 17, rfl, by decide, gc_X0, Or.inl (gt_of 249 (by decide +kernel) rfl)⟩
theorem fl_X0_49 : FL RX0 49 0 1 := ⟨RX0, TX0, 17, rfl, by decide, gc_X0, Or.inl (gt_of 233 (by decide +kernel) rfl)⟩
theorem fl_X0_53 : FL RX0 53 4 5 := ⟨RX5, TX5, 7, rfl, by decide, gc_X5, Or.inr ⟨"BeforeItGoes", nw_of 130 (by decide +kernel) rfl⟩⟩
theorem fp_X0_53 : FP RX0 53 4 5 .int := ⟨RX5, TX5, 7, tyX5, rfl, by decide, gc_X5, Or.inr ⟨"BeforeItGoes", nw_of 130 (by decide +kernel) rfl⟩, tyX5_ok, nmX5, rfl, by decide +kernel⟩
theorem fl_X0_57 : FL RX0 57 4 1 := ⟨RX5, TX5, 7, rfl, by decide, gc_X5, Or.inr ⟨"BeforeItGoes", nw_of 118 (by decide +kernel) rfl⟩⟩
theorem fl_X0_60 : FL RX0 60 4 2 := ⟨RX5, TX5, 7, rfl, by decide, gc_X5, Or.inr ⟨"BeforeItGoes", nw_of 121 (by decide +kernel) rfl⟩⟩
theorem fl_X0_63 : FL RX0 63 4 4 := ⟨RX5, TX5, 7, rfl, by decide, gc_X5, Or.inr ⟨"BeforeItGoes", nw_of 127 (by decide +kernel) rfl⟩⟩
theorem fl_X0_78 : FL RX0 78 4 3 := ⟨RX5, TX5, 7, rfl, by decide, gc_X5, Or.inr ⟨"BeforeItGoes", nw_of 124 (by decide +kernel) rfl⟩⟩
theorem fl_X0_83 : FL RX0 83 4 6 := ⟨RX5, TX5, 7, rfl, by decide, gc_X5, Or.inr ⟨"BeforeItGoes", nw_of 133 (by decide +kernel) rfl⟩⟩
theorem fp_X0_83 : FP RX0 83 4 6 .int := ⟨RX5, TX5, 7, tyX5, rfl, by decide, gc_X5, Or.inr ⟨"BeforeItGoes", nw_of 133 (by decide +kernel) rfl⟩, tyX5_ok, nmX5, rfl, by decide +kernel⟩
theorem fl_X0_86 : FL RX0 86 4 0 := ⟨RX5, TX5, 7, rfl, by decide, gc_X5, Or.inr ⟨"BeforeItGoes", nw_of 115 (by decide +kernel) rfl⟩⟩
theorem fl_X0_112 : FL RX0 112 0 13 := ⟨RX0, TX0, 17, rfl, by decide, gc_X0, Or.inl (gt_of 252 (by decide +kernel) rfl)⟩
theorem fp_X0_112 : FP RX0 112 0 13 .int := ⟨RX0, TX0, 17, tyX0, rfl, by decide, gc_X0, Or.inl (gt_of 252 (by decide +kernel) rfl), tyX0_ok, nmX0, rfl, by decide +kernel⟩
theorem fl_X0_115 : FL RX0 115 0 14 := ⟨RX0, TX0, 17, rfl, by decide, gc_X0, Or.inl (gt_of 253 (by decide +kernel) rfl)⟩
theorem fp_X0_115 : FP RX0 115 0 14 .int := ⟨RX0, TX0, 17, tyX0, rfl, by decide, gc_X0, Or.inl (gt_of 253 (by decide +kernel) rfl), tyX0_ok, nmX0, rfl, by decide +kernel⟩
theorem fl_X0_130 : FL RX0 130 0 12 := ⟨RX0, TX0, 17, rfl, by decide, gc_X0, Or.inl (gt_of 251 (by decide +kernel) rfl)⟩
theorem fp_X0_130 : FP RX0 130 0 12 .int := ⟨RX0, TX0, 17, tyX0, rfl, by decide, gc_X0, Or.inl (gt_of 251 (by decide +kernel) rfl), tyX0_ok, nmX0, rfl, by decide +kernel⟩
theorem fl_X0_139 : FL RX0 139 0 15 := ⟨RX0, TX0, 17, rfl, by decide, gc_X0, Or.inl (gt_of 255 (by decide +kernel) rfl)⟩
theorem fp_X0_139 : FP RX0 139 0 15 .int := ⟨RX0, TX0, 17, tyX0, rfl, by decide, gc_X0, Or.inl (gt_of 255 (by decide +kernel) rfl), tyX0_ok, nmX0, rfl, by decide +kernel⟩
theorem fl_X0_142 : FL RX0 142 0 16 := ⟨RX0, TX0, 17, rfl, by decide, gc_X0, Or.inl (gt_of 257 (by decide +kernel) rfl)⟩
theorem fp_X0_142 : FP RX0 142 0 16 .int := ⟨RX0, TX0, 17, tyX0, rfl, by decide, gc_X0, Or.inl (gt_of 257 (by decide +kernel) rfl), tyX0_ok, nmX0, rfl, by decide +kernel⟩
theorem fl_X0_148 : FL RX0 148 3 0 := ⟨RX4, TX4, 3, rfl, by decide, gc_X4, Or.inr ⟨"BeforeItGoes", nw_of 326 (by decide +kernel) rfl⟩⟩
theorem fl_X2_7 : FL RX2 7 1 0 := ⟨RX2, TX2, 4, rfl, by decide, gc_X2, Or.inl (gt_of 300 (by decide +kernel) rfl)⟩
theorem fp_X2_7 : FP RX2 7 1 0 .boolean := ⟨RX2, TX2, 4, tyX2, rfl, by decide, gc_X2, Or.inl (gt_of 300 (by decide +kernel) rfl), tyX2_ok, nmX2, rfl, by decide +kernel⟩
theorem fl_X2_13 : FL RX2 13 1 2 := ⟨RX2, TX2, 4, rfl, by decide, gc_X2, Or.inl (gt_of 303 (by decide +kernel) rfl)⟩
theorem fp_X2_13 : FP RX2 13 1 2 .int := ⟨RX2, TX2, 4, tyX2, rfl, by decide, gc_X2, Or.inl (gt_of 303 (by decide +kernel) rfl), tyX2_ok, nmX2, rfl, by decide +kernel⟩
theorem fl_X2_17 : FL RX2 17 1 3 := ⟨RX2, TX2, 4, rfl, by decide, gc_X2, Or.inl (gt_of 305 (by decide +kernel) rfl)⟩
theorem fp_X2_17 : FP RX2 17 1 3 .int := ⟨RX2, TX2, 4, tyX2, rfl, by decide, gc_X2, Or.inl (gt_of 305 (by decide +kernel) rfl), tyX2_ok, nmX2, rfl, by decide +kernel⟩
theorem fl_X2_20 : FL RX2 20 1 1 := ⟨RX2, TX2, 4, rfl, by decide, gc_X2, Or.inl (gt_of 301 (by decide +kernel) rfl)⟩
theorem fp_X2_20 : FP RX2 20 1 1 .int := ⟨RX2, TX2, 4, tyX2, rfl, by decide, gc_X2, Or.inl (gt_of 301 (by decide +kernel) rfl), tyX2_ok, nmX2, rfl, by decide +kernel⟩
theorem fl_X3_12 : FL RX3 12 2 1 := ⟨RX3, TX3, 5, rfl, by decide, gc_X3, Or.inl (gt_of 205 (by decide +kernel) rfl)⟩
theorem fl_X3_18 : FL RX3 18 2 0 := ⟨RX3, TX3, 5, rfl, by decide, gc_X3, Or.inl (gt_of 204 (by decide +kernel) rfl)⟩
theorem fl_X3_22 : FL RX3 22 2 3 := ⟨RX3, TX3, 5, rfl, by decide, gc_X3, Or.inl (gt_of 208 (by decide +kernel) rfl)⟩
theorem fp_X3_22 : FP RX3 22 2 3 .int := ⟨RX3, TX3, 5, tyX3, rfl, by decide, gc_X3, Or.inl (gt_of 208 (by decide +kernel) rfl), tyX3_ok, nmX3, rfl, by decide +kernel⟩
theorem fl_X3_26 : FL RX3 26 2 4 := ⟨RX3, TX3, 5, rfl, by decide, gc_X3, Or.inl (gt_of 209 (by decide +kernel) rfl)⟩
theorem fp_X3_26 : FP RX3 26 2 4 .int := ⟨RX3, TX3, 5, tyX3, rfl, by decide, gc_X3, Or.inl (gt_of 209 (by decide +kernel) rfl), tyX3_ok, nmX3, rfl, by decide +kernel⟩
theorem fl_X3_32 : FL RX3 32 2 2 := ⟨RX3, TX3, 5, rfl, by decide, gc_X3, Or.inl (gt_of 207 (by decide +kernel) rfl)⟩
theorem fp_X3_32 : FP RX3 32 2 2 .int := ⟨RX3, TX3, 5, tyX3, rfl, by decide, gc_X3, Or.inl (gt_of 207 (by decide +kernel) rfl), tyX3_ok, nmX3, rfl, by decide +kernel⟩
theorem fl_X3_54 : FL RX3 54 5 2 := ⟨RX6, TX6, 6, rfl, by decide, gc_X6, Or.inr ⟨"BeforeItGoes", nw_of 162 (by decide +kernel) rfl⟩⟩
theorem fl_X3_58 : FL RX3 58 5 5 := ⟨RX6, TX6, 6, rfl, by decide, gc_X6, Or.inr ⟨"BeforeItGoes", nw_of 168 (by decide +kernel) rfl⟩⟩
theorem fp_X3_58 : FP RX3 58 5 5 .int := ⟨RX6, TX6, 6, tyX6, rfl, by decide, gc_X6, Or.inr ⟨"BeforeItGoes", nw_of 168 (by decide +kernel) rfl⟩, tyX6_ok, nmX6, rfl, by decide +kernel⟩
theorem fl_X3_61 : FL RX3 61 5 3 := ⟨RX6, TX6, 6, rfl, by decide, gc_X6, Or.inr ⟨"BeforeItGoes", nw_of 164 (by decide +kernel) rfl⟩⟩
theorem fl_X3_64 : FL RX3 64 5 1 := ⟨RX6, TX6, 6, rfl, by decide, gc_X6, Or.inr ⟨"BeforeItGoes", nw_of 159 (by decide +kernel) rfl⟩⟩
theorem fp_X3_64 : FP RX3 64 5 1 .int := ⟨RX6, TX6, 6, tyX6, rfl, by decide, gc_X6, Or.inr ⟨"BeforeItGoes", nw_of 159 (by decide +kernel) rfl⟩, tyX6_ok, nmX6, rfl, by decide +kernel⟩
theorem fl_X3_111 : FL RX3 111 5 4 := ⟨RX6, TX6, 6, rfl, by decide, gc_X6, Or.inr ⟨"BeforeItGoes", nw_of 166 (by decide +kernel) rfl⟩⟩
theorem fl_X4_9 : FL RX4 9 3 0 := ⟨RX4, TX4, 3, rfl, by decide, gc_X4, Or.inl (gt_of 324 (by decide +kernel) rfl)⟩
theorem fl_X4_15 : FL RX4 15 3 1 := ⟨RX4, TX4, 3, rfl, by decide, gc_X4, Or.inl (gt_of 327 (by decide +kernel) rfl)⟩
theorem fp_X4_15 : FP RX4 15 3 1 .int := ⟨RX4, TX4, 3, tyX4, rfl, by decide, gc_X4, Or.inl (gt_of 327 (by decide +kernel) rfl), tyX4_ok, nmX4, rfl, by decide +kernel⟩
theorem fl_X4_19 : FL RX4 19 3 2 := ⟨RX4, TX4, 3, rfl, by decide, gc_X4, Or.inl (gt_of 329 (by decide +kernel) rfl)⟩
theorem fp_X4_19 : FP RX4 19 3 2 .int := ⟨RX4, TX4, 3, tyX4, rfl, by decide, gc_X4, Or.inl (gt_of 329 (by decide +kernel) rfl), tyX4_ok, nmX4, rfl, by decide +kernel⟩
theorem fl_X5_9 : FL RX5 9 4 0 := ⟨RX5, TX5, 7, rfl, by decide, gc_X5, Or.inl (gt_of 114 (by decide +kernel) rfl)⟩
theorem fl_X5_15 : FL RX5 15 4 1 := ⟨RX5, TX5, 7, rfl, by decide, gc_X5, Or.inl (gt_of 117 (by decide +kernel) rfl)⟩
theorem fl_X5_18 : FL RX5 18 4 2 := ⟨RX5, TX5, 7, rfl, by decide, gc_X5, Or.inl (gt_of 120 (by decide +kernel) rfl)⟩
theorem fl_X5_21 : FL RX5 21 4 3 := ⟨RX5, TX5, 7, rfl, by decide, gc_X5, Or.inl (gt_of 123 (by decide +kernel) rfl)⟩
theorem fl_X5_24 : FL RX5 24 4 4 := ⟨RX5, TX5, 7, rfl, by decide, gc_X5, Or.inl (gt_of 126 (by decide +kernel) rfl)⟩
theorem fl_X5_27 : FL RX5 27 4 5 := ⟨RX5, TX5, 7, rfl, by decide, gc_X5, Or.inl (gt_of 129 (by decide +kernel) rfl)⟩
theorem fp_X5_27 : FP RX5 27 4 5 .int := ⟨RX5, TX5, 7, tyX5, rfl, by decide, gc_X5, Or.inl (gt_of 129 (by decide +kernel) rfl), tyX5_ok, nmX5, rfl, by decide +kernel⟩
theorem fl_X5_31 : FL RX5 31 4 6 := ⟨RX5, TX5, 7, rfl, by decide, gc_X5, Or.inl (gt_of 132 (by decide +kernel) rfl)⟩
theorem fp_X5_31 : FP RX5 31 4 6 .int := ⟨RX5, TX5, 7, tyX5, rfl, by decide, gc_X5, Or.inl (gt_of 132 (by decide +kernel) rfl), tyX5_ok, nmX5, rfl, by decide +kernel⟩
theorem fl_X6_9 : FL RX6 9 5 0 := ⟨RX6, TX6, 6, rfl, by decide, gc_X6, Or.inl (gt_of 157 (by decide +kernel) rfl)⟩
theorem fl_X6_15 : FL RX6 15 5 1 := ⟨RX6, TX6, 6, rfl, by decide, gc_X6, Or.inl (gt_of 158 (by decide +kernel) rfl)⟩
theorem fp_X6_15 : FP RX6 15 5 1 .int := ⟨RX6, TX6, 6, tyX6, rfl, by decide, gc_X6, Or.inl (gt_of 158 (by decide +kernel) rfl), tyX6_ok, nmX6, rfl, by decide +kernel⟩
theorem fl_X6_19 : FL RX6 19 5 2 := ⟨RX6, TX6, 6, rfl, by decide, gc_X6, Or.inl (gt_of 161 (by decide +kernel) rfl)⟩
theorem fl_X6_22 : FL RX6 22 5 3 := ⟨RX6, TX6, 6, rfl, by decide, gc_X6, Or.inl (gt_of 163 (by decide +kernel) rfl)⟩
theorem fl_X6_25 : FL RX6 25 5 4 := ⟨RX6, TX6, 6, rfl, by decide, gc_X6, Or.inl (gt_of 165 (by decide +kernel) rfl)⟩
theorem fl_X6_28 : FL RX6 28 5 5 := ⟨RX6, TX6, 6, rfl, by decide, gc_X6, Or.inl (gt_of 167 (by decide +kernel) rfl)⟩
theorem fp_X6_28 : FP RX6 28 5 5 .int := ⟨RX6, TX6, 6, tyX6, rfl, by decide, gc_X6, Or.inl (gt_of 167 (by decide +kernel) rfl), tyX6_ok, nmX6, rfl, by decide +kernel⟩
theorem fl_X7_9 : FL RX7 9 6 0 := ⟨RX7, TX7, 3, rfl, by decide, gc_X7, Or.inl (gt_of 194 (by decide +kernel) rfl)⟩
theorem fl_X7_15 : FL RX7 15 6 1 := ⟨RX7, TX7, 3, rfl, by decide, gc_X7, Or.inl (gt_of 195 (by decide +kernel) rfl)⟩
theorem fl_X7_18 : FL RX7 18 6 2 := ⟨RX7, TX7, 3, rfl, by decide, gc_X7, Or.inl (gt_of 196 (by decide +kernel) rfl)⟩
theorem fp_X7_18 : FP RX7 18 6 2 .int := ⟨RX7, TX7, 3, tyX7, rfl, by decide, gc_X7, Or.inl (gt_of 196 (by decide +kernel) rfl), tyX7_ok, nmX7, rfl, by decide +kernel⟩
theorem fl_X9_13 : FL RX9 13 8 1 := ⟨RX9, TX9, 53, rfl, by decide, gc_X9, Or.inl (gt_of 962 (by decide +kernel) rfl)⟩
theorem fl_X9_17 : FL RX9 17 8 2 := ⟨RX9, TX9, 53, rfl, by decide, gc_X9, Or.inl (gt_of 963 (by decide +kernel) rfl)⟩
theorem fl_X9_20 : FL RX9 20 8 5 := ⟨RX9, TX9, 53, rfl, by decide, gc_X9, Or.inl (gt_of 966 (by decide +kernel) rfl)⟩
theorem fl_X9_23 : FL RX9 23 8 7 := ⟨RX9, TX9, 53, rfl, by decide, gc_X9, Or.inl (gt_of 968 (by decide +kernel) rfl)⟩
theorem fl_X9_26 : FL RX9 26 8 8 := ⟨RX9, TX9, 53, rfl, by decide, gc_X9, Or.inl (gt_of 969 (by decide +kernel) rfl)⟩
theorem fl_X9_29 : FL RX9 29 8 9 := ⟨RX9, TX9, 53, rfl, by decide, gc_X9, Or.inl (gt_of 970 (by decide +kernel) rfl)⟩
theorem fl_X9_32 : FL RX9 32 8 10 := ⟨RX9, TX9, 53, rfl, by decide, gc_X9, Or.inl (gt_of 971 (by decide +kernel) rfl)⟩
theorem fl_X9_35 : FL RX9 35 8 11 := ⟨RX9, TX9, 53, rfl, by decide, gc_X9, Or.inl (gt_of 972 (by decide +kernel) rfl)⟩
theorem fl_X9_38 : FL RX9 38 8 28 := ⟨RX9, TX9, 53, rfl, by decide, gc_X9, Or.inl (gt_of 989 (by decide +kernel) rfl)⟩
theorem fl_X9_41 : FL RX9 41 8 30 := ⟨RX9, TX9, 53, rfl, by decide, gc_X9, Or.inl (gt_of 991 (by decide +kernel) rfl)⟩
theorem fl_X9_44 : FL RX9 44 8 31 := ⟨RX9, TX9, 53, rfl, by decide, gc_X9, Or.inl (gt_of 992 (by decide +kernel) rfl)⟩
theorem fl_X9_47 : FL RX9 47 8 32 := ⟨RX9, TX9, 53, rfl, by decide, gc_X9, Or.inl (gt_of 993 (by decide +kernel) rfl)⟩
theorem fl_X9_50 : FL RX9 50 8 33 := ⟨RX9, TX9, 53, rfl, by decide, gc_X9, Or.inl (gt_of 994 (by decide +kernel) rfl)⟩
theorem fl_X9_53 : FL RX9 53 8 34 := ⟨RX9, TX9, 53, rfl, by decide, gc_X9, Or.inl (gt_of 995 (by decide +kernel) rfl)⟩
theorem fl_X9_56 : FL RX9 56 8 35 := ⟨RX9, TX9, 53, rfl, by decide, gc_X9, Or.inl (gt_of 996 (by decide +kernel) rfl)⟩
theorem fl_X9_59 : FL RX9 59 8 36 := ⟨RX9, TX9, 53, rfl, by decide, gc_X9, Or.inl (gt_of 997 (by decide +kernel) rfl)⟩
theorem fl_X9_62 : FL RX9 62 8 45 := ⟨RX9, TX9, 53, rfl, by decide, gc_X9, Or.inl (gt_of 1006 (by decide +kernel) rfl)⟩
theorem fl_X9_65 : FL RX9 65 8 46 := ⟨RX9, TX9, 53, rfl, by decide, gc_X9, Or.inl (gt_of 1007 (by decide +kernel) rfl)⟩
theorem fl_X9_68 : FL RX9 68 8 47 := ⟨RX9, TX9, 53, rfl, by decide, gc_X9, Or.inl (gt_of 1008 (by decide +kernel) rfl)⟩
theorem fp_X9_68 : FP RX9 68 8 47 .int := ⟨RX9, TX9, 53, tyX9, rfl, by decide, gc_X9, Or.inl (gt_of 1008 (by decide +kernel) rfl), tyX9_ok, nmX9, rfl, by decide +kernel⟩
theorem fl_X9_71 : FL RX9 71 8 49 := ⟨RX9, TX9, 53, rfl, by decide, gc_X9, Or.inl (gt_of 1010 (by decide +kernel) rfl)⟩
theorem fl_X9_75 : FL RX9 75 8 50 := ⟨RX9, TX9, 53, rfl, by decide, gc_X9, Or.inl (gt_of 1011 (by decide +kernel) rfl)⟩
theorem fl_X9_78 : FL RX9 78 8 51 := ⟨RX9, TX9, 53, rfl, by decide, gc_X9, Or.inl (gt_of 1012 (by decide +kernel) rfl)⟩
theorem fl_X9_81 : FL RX9 81 8 52 := ⟨RX9, TX9, 53, rfl, by decide, gc_X9, Or.inl (gt_of 1013 (by decide +kernel) rfl)⟩
theorem fl_X9_88 : FL RX9 88 8 3 := ⟨RX9, TX9, 53, rfl, by decide, gc_X9, Or.inl (gt_of 964 (by decide +kernel) rfl)⟩
theorem fp_X9_88 : FP RX9 88 8 3 .int := ⟨RX9, TX9, 53, tyX9, rfl, by decide, gc_X9, Or.inl (gt_of 964 (by decide +kernel) rfl), tyX9_ok, nmX9, rfl, by decide +kernel⟩
theorem fl_X9_91 : FL RX9 91 8 12 := ⟨RX9, TX9, 53, rfl, by decide, gc_X9, Or.inl (gt_of 973 (by decide +kernel) rfl)⟩
theorem fp_X9_91 : FP RX9 91 8 12 .int := ⟨RX9, TX9, 53, tyX9, rfl, by decide, gc_X9, Or.inl (gt_of 973 (by decide +kernel) rfl), tyX9_ok, nmX9, rfl, by decide +kernel⟩
theorem fl_X9_124 : FL RX9 124 8 6 := ⟨RX9, TX9, 53, rfl, by decide, gc_X9, Or.inl (gt_of 967 (by decide +kernel) rfl)⟩
theorem fp_X9_124 : FP RX9 124 8 6 .int := ⟨RX9, TX9, 53, tyX9, rfl, by decide, gc_X9, Or.inl (gt_of 967 (by decide +kernel) rfl), tyX9_ok, nmX9, rfl, by decide +kernel⟩
theorem fl_X9_127 : FL RX9 127 8 20 := ⟨RX9, TX9, 53, rfl, by decide, gc_X9, Or.inl (gt_of 981 (by decide +kernel) rfl)⟩
theorem fp_X9_127 : FP RX9 127 8 20 .int := ⟨RX9, TX9, 53, tyX9, rfl, by decide, gc_X9, Or.inl (gt_of 981 (by decide +kernel) rfl), tyX9_ok, nmX9, rfl, by decide +kernel⟩
theorem fl_X9_130 : FL RX9 130 8 19 := ⟨RX9, TX9, 53, rfl, by decide, gc_X9, Or.inl (gt_of 980 (by decide +kernel) rfl)⟩
theorem fp_X9_130 : FP RX9 130 8 19 .int := ⟨RX9, TX9, 53, tyX9, rfl, by decide, gc_X9, Or.inl (gt_of 980 (by decide +kernel) rfl), tyX9_ok, nmX9, rfl, by decide +kernel⟩
theorem fl_X9_133 : FL RX9 133 8 21 := ⟨RX9, TX9, 53, rfl, by decide, gc_X9, Or.inl (gt_of 982 (by decide +kernel) rfl)⟩
theorem fp_X9_133 : FP RX9 133 8 21 .int := ⟨RX9, TX9, 53, tyX9, rfl, by decide, gc_X9, Or.inl (gt_of 982 (by decide +kernel) rfl), tyX9_ok, nmX9, rfl, by decide +kernel⟩
theorem fl_X9_139 : FL RX9 139 8 23 := ⟨RX9, TX9, 53, rfl, by decide, gc_X9, Or.inl (gt_of 984 (by decide +kernel) rfl)⟩
theorem fp_X9_139 : FP RX9 139 8 23 .int := ⟨RX9, TX9, 53, tyX9, rfl, by decide, gc_X9, Or.inl (gt_of 984 (by decide +kernel) rfl), tyX9_ok, nmX9, rfl, by decide +kernel⟩
theorem fl_X9_142 : FL RX9 142 8 22 := ⟨RX9, TX9, 53, rfl, by decide, gc_X9, Or.inl (gt_of 983 (by decide +kernel) rfl)⟩
theorem fp_X9_142 : FP RX9 142 8 22 .int := ⟨RX9, TX9, 53, tyX9, rfl, by decide, gc_X9, Or.inl (gt_of 983 (by decide +kernel) rfl), tyX9_ok, nmX9, rfl, by decide +kernel⟩
theorem fl_X9_153 : FL RX9 153 8 24 := ⟨RX9, TX9, 53, rfl, by decide, gc_X9, Or.inl (gt_of 985 (by decide +kernel) rfl)⟩
theorem fp_X9_153 : FP RX9 153 8 24 .long := ⟨RX9, TX9, 53, tyX9, rfl, by decide, gc_X9, Or.inl (gt_of 985 (by decide +kernel) rfl), tyX9_ok, nmX9, rfl, by decide +kernel⟩
theorem fl_X9_159 : FL RX9 159 8 26 := ⟨RX9, TX9, 53, rfl, by decide, gc_X9, Or.inl (gt_of 987 (by decide +kernel) rfl)⟩
theorem fp_X9_159 : FP RX9 159 8 26 .boolean := ⟨RX9, TX9, 53, tyX9, rfl, by decide, gc_X9, Or.inl (gt_of 987 (by decide +kernel) rfl), tyX9_ok, nmX9, rfl, by decide +kernel⟩
theorem fl_X9_163 : FL RX9 163 8 27 := ⟨RX9, TX9, 53, rfl, by decide, gc_X9, Or.inl (gt_of 988 (by decide +kernel) rfl)⟩
theorem fp_X9_163 : FP RX9 163 8 27 .int := ⟨RX9, TX9, 53, tyX9, rfl, by decide, gc_X9, Or.inl (gt_of 988 (by decide +kernel) rfl), tyX9_ok, nmX9, rfl, by decide +kernel⟩
theorem fl_X9_170 : FL RX9 170 8 25 := ⟨RX9, TX9, 53, rfl, by decide, gc_X9, Or.inl (gt_of 986 (by decide +kernel) rfl)⟩
theorem fp_X9_170 : FP RX9 170 8 25 .int := ⟨RX9, TX9, 53, tyX9, rfl, by decide, gc_X9, Or.inl (gt_of 986 (by decide +kernel) rfl), tyX9_ok, nmX9, rfl, by decide +kernel⟩
theorem fl_X9_183 : FL RX9 183 8 13 := ⟨RX9, TX9, 53, rfl, by decide, gc_X9, Or.inl (gt_of 974 (by decide +kernel) rfl)⟩
theorem fp_X9_183 : FP RX9 183 8 13 .int := ⟨RX9, TX9, 53, tyX9, rfl, by decide, gc_X9, Or.inl (gt_of 974 (by decide +kernel) rfl), tyX9_ok, nmX9, rfl, by decide +kernel⟩
theorem fl_X9_186 : FL RX9 186 8 14 := ⟨RX9, TX9, 53, rfl, by decide, gc_X9, Or.inl (gt_of 975 (by decide +kernel) rfl)⟩
theorem fp_X9_186 : FP RX9 186 8 14 .int := ⟨RX9, TX9, 53, tyX9, rfl, by decide, gc_X9, Or.inl (gt_of 975 (by decide +kernel) rfl), tyX9_ok, nmX9, rfl, by decide +kernel⟩
theorem fl_X9_189 : FL RX9 189 8 15 := ⟨RX9, TX9, 53, rfl, by decide, gc_X9, Or.inl (gt_of 976 (by decide +kernel) rfl)⟩
theorem fp_X9_189 : FP RX9 189 8 15 .int := ⟨RX9, TX9, 53, tyX9, rfl, by decide, gc_X9, Or.inl (gt_of 976 (by decide +kernel) rfl), tyX9_ok, nmX9, rfl, by decide +kernel⟩
theorem fl_X9_192 : FL RX9 192 8 16 := ⟨RX9, TX9, 53, rfl, by decide, gc_X9, Or.inl (gt_of 977 (by decide +kernel) rfl)⟩
theorem fp_X9_192 : FP RX9 192 8 16 .int := ⟨RX9, TX9, 53, tyX9, rfl, by decide, gc_X9, Or.inl (gt_of 977 (by decide +kernel) rfl), tyX9_ok, nmX9, rfl, by decide +kernel⟩
theorem fl_X9_195 : FL RX9 195 8 17 := ⟨RX9, TX9, 53, rfl, by decide, gc_X9, Or.inl (gt_of 978 (by decide +kernel) rfl)⟩
theorem fp_X9_195 : FP RX9 195 8 17 .int := ⟨RX9, TX9, 53, tyX9, rfl, by decide, gc_X9, Or.inl (gt_of 978 (by decide +kernel) rfl), tyX9_ok, nmX9, rfl, by decide +kernel⟩
theorem fl_X9_198 : FL RX9 198 8 18 := ⟨RX9, TX9, 53, rfl, by decide, gc_X9, Or.inl (gt_of 979 (by decide +kernel) rfl)⟩
theorem fp_X9_198 : FP RX9 198 8 18 .int := ⟨RX9, TX9, 53, tyX9, rfl, by decide, gc_X9, Or.inl (gt_of 979 (by decide +kernel) rfl), tyX9_ok, nmX9, rfl, by decide +kernel⟩
theorem fl_X9_242 : FL RX9 242 8 4 := ⟨RX9, TX9, 53, rfl, by decide, gc_X9, Or.inl (gt_of 965 (by decide +kernel) rfl)⟩
theorem fp_X9_242 : FP RX9 242 8 4 .int := ⟨RX9, TX9, 53, tyX9, rfl, by decide, gc_X9, Or.inl (gt_of 965 (by decide +kernel) rfl), tyX9_ok, nmX9, rfl, by decide +kernel⟩
theorem fl_X9_253 : FL RX9 253 8 38 := ⟨RX9, TX9, 53, rfl, by decide, gc_X9, Or.inl (gt_of 999 (by decide +kernel) rfl)⟩
theorem fp_X9_253 : FP RX9 253 8 38 .int := ⟨RX9, TX9, 53, tyX9, rfl, by decide, gc_X9, Or.inl (gt_of 999 (by decide +kernel) rfl), tyX9_ok, nmX9, rfl, by decide +kernel⟩
theorem fl_X9_255 : FL RX9 255 8 37 := ⟨RX9, TX9, 53, rfl, by decide, gc_X9, Or.inl (gt_of 998 (by decide +kernel) rfl)⟩
theorem fp_X9_255 : FP RX9 255 8 37 .int := ⟨RX9, TX9, 53, tyX9, rfl, by decide, gc_X9, Or.inl (gt_of 998 (by decide +kernel) rfl), tyX9_ok, nmX9, rfl, by decide +kernel⟩
theorem fl_X9_258 : FL RX9 258 8 41 := ⟨RX9, TX9, 53, rfl, by decide, gc_X9, Or.inl (gt_of 1002 (by decide +kernel) rfl)⟩
theorem fp_X9_258 : FP RX9 258 8 41 .int := ⟨RX9, TX9, 53, tyX9, rfl, by decide, gc_X9, Or.inl (gt_of 1002 (by decide +kernel) rfl), tyX9_ok, nmX9, rfl, by decide +kernel⟩
theorem fl_X9_261 : FL RX9 261 8 39 := ⟨RX9, TX9, 53, rfl, by decide, gc_X9, Or.inl (gt_of 1000 (by decide +kernel) rfl)⟩
theorem fp_X9_261 : FP RX9 261 8 39 .int := ⟨RX9, TX9, 53, tyX9, rfl, by decide, gc_X9, Or.inl (gt_of 1000 (by decide +kernel) rfl), tyX9_ok, nmX9, rfl, by decide +kernel⟩
theorem fl_X9_264 : FL RX9 264 8 40 := ⟨RX9, TX9, 53, rfl, by decide, gc_X9, Or.inl (gt_of 1001 (by decide +kernel) rfl)⟩
theorem fp_X9_264 : FP RX9 264 8 40 .int := ⟨RX9, TX9, 53, tyX9, rfl, by decide, gc_X9, Or.inl (gt_of 1001 (by decide +kernel) rfl), tyX9_ok, nmX9, rfl, by decide +kernel⟩
theorem fl_X9_267 : FL RX9 267 8 29 := ⟨RX9, TX9, 53, rfl, by decide, gc_X9, Or.inl (gt_of 990 (by decide +kernel) rfl)⟩
theorem fp_X9_267 : FP RX9 267 8 29 .int := ⟨RX9, TX9, 53, tyX9, rfl, by decide, gc_X9, Or.inl (gt_of 990 (by decide +kernel) rfl), tyX9_ok, nmX9, rfl, by decide +kernel⟩
theorem fl_X9_309 : FL RX9 309 8 44 := ⟨RX9, TX9, 53, rfl, by decide, gc_X9, Or.inl (gt_of 1005 (by decide +kernel) rfl)⟩
theorem fp_X9_309 : FP RX9 309 8 44 .int := ⟨RX9, TX9, 53, tyX9, rfl, by decide, gc_X9, Or.inl (gt_of 1005 (by decide +kernel) rfl), tyX9_ok, nmX9, rfl, by decide +kernel⟩
theorem fl_X9_312 : FL RX9 312 8 42 := ⟨RX9, TX9, 53, rfl, by decide, gc_X9, Or.inl (gt_of 1003 (by decide +kernel) rfl)⟩
theorem fp_X9_312 : FP RX9 312 8 42 .int := ⟨RX9, TX9, 53, tyX9, rfl, by decide, gc_X9, Or.inl (gt_of 1003 (by decide +kernel) rfl), tyX9_ok, nmX9, rfl, by decide +kernel⟩
theorem fl_X9_315 : FL RX9 315 8 43 := ⟨RX9, TX9, 53, rfl, by decide, gc_X9, Or.inl (gt_of 1004 (by decide +kernel) rfl)⟩
theorem fp_X9_315 : FP RX9 315 8 43 .int := ⟨RX9, TX9, 53, tyX9, rfl, by decide, gc_X9, Or.inl (gt_of 1004 (by decide +kernel) rfl), tyX9_ok, nmX9, rfl, by decide +kernel⟩
theorem fl_X9_359 : FL RX9 359 8 48 := ⟨RX9, TX9, 53, rfl, by decide, gc_X9, Or.inl (gt_of 1009 (by decide +kernel) rfl)⟩
theorem fp_X9_359 : FP RX9 359 8 48 .int := ⟨RX9, TX9, 53, tyX9, rfl, by decide, gc_X9, Or.inl (gt_of 1009 (by decide +kernel) rfl), tyX9_ok, nmX9, rfl, by decide +kernel⟩
theorem fs_X8_92 : Cond.fieldLink RX8 92 "BeforeItGoes" (tnm 0) "[I" ∈ gt ∨ ∃ host : String, Cond.fieldLinkNest RX8 92 "BeforeItGoes" (tnm 0) "[I" host ∈ nw := Or.inl (gt_of 622 (by decide +kernel) rfl)
theorem fs_X8_96 : Cond.fieldLink RX8 96 "BeforeItGoes" (tnm 1) "[I" ∈ gt ∨ ∃ host : String, Cond.fieldLinkNest RX8 96 "BeforeItGoes" (tnm 1) "[I" host ∈ nw := Or.inl (gt_of 624 (by decide +kernel) rfl)
theorem fs_X0_95 : Cond.fieldLink RX0 95 "BeforeItGoes" (tnm 2) "[I" ∈ gt ∨ ∃ host : String, Cond.fieldLinkNest RX0 95 "BeforeItGoes" (tnm 2) "[I" host ∈ nw := Or.inr ⟨"BeforeItGoes", nw_of 681 (by decide +kernel) rfl⟩
theorem fs_X0_98 : Cond.fieldLink RX0 98 "BeforeItGoes" (tnm 3) "[I" ∈ gt ∨ ∃ host : String, Cond.fieldLinkNest RX0 98 "BeforeItGoes" (tnm 3) "[I" host ∈ nw := Or.inr ⟨"BeforeItGoes", nw_of 683 (by decide +kernel) rfl⟩
theorem fs_J0_9 : Cond.fieldLink RJ0 9 "java/lang/String" "value" "[B" ∈ gt := gt_of 1427 (by decide +kernel) rfl
theorem fs_J0_15 : Cond.fieldLink RJ0 15 "java/lang/String" "coder" "B" ∈ gt := gt_of 1428 (by decide +kernel) rfl
theorem fs_J0_38 : Cond.fieldLink RJ0 38 "java/lang/String" "COMPACT_STRINGS" "Z" ∈ gt := gt_of 347 (by decide +kernel) rfl
theorem fs_J0_1053 : Cond.fieldLink RJ0 1053 "jdk/internal/util/Preconditions" "SIOOBE_FORMATTER" "Ljava/util/function/BiFunction;" ∈ gt := gt_of 363 (by decide +kernel) rfl
theorem cn_X8_164 : Cond.constant RX8 164 (-100000) ∈ gt := gt_of 717 (by decide +kernel) rfl
theorem cn_X8_292 : Cond.constant RX8 292 (1103515245) ∈ gt := gt_of 900 (by decide +kernel) rfl
theorem cn_X9_296 : Cond.constant RX9 296 (-100000) ∈ gt := gt_of 1259 (by decide +kernel) rfl
theorem cn_X9_355 : Cond.constant RX9 355 (1103515245) ∈ gt := gt_of 1389 (by decide +kernel) rfl
theorem cn_J11_76 : Cond.constant RJ11 76 (56320) ∈ gt := gt_of 480 (by decide +kernel) rfl
theorem cn_J11_110 : Cond.constant RJ11 110 (55232) ∈ gt := gt_of 476 (by decide +kernel) rfl
theorem cn_J6_265 : Cond.constant RJ6 265 (1431655765) ∈ gt := gt_of 829 (by decide +kernel) rfl
theorem cn_J6_266 : Cond.constant RJ6 266 (858993459) ∈ gt := gt_of 830 (by decide +kernel) rfl
theorem cn_J6_267 : Cond.constant RJ6 267 (252645135) ∈ gt := gt_of 831 (by decide +kernel) rfl
theorem cn_J2_227 : Cond.constant RJ2 227 (65536) ∈ gt := gt_of 451 (by decide +kernel) rfl
theorem cl_X8_276 : Cond.constantLong RX8 276 (-4611686018427387904) ∈ gt := gt_of 876 (by decide +kernel) rfl
theorem cl_X9_98 : Cond.constantLong RX9 98 (8) ∈ gt := gt_of 1126 (by decide +kernel) rfl
theorem cl_X9_104 : Cond.constantLong RX9 104 (5) ∈ gt := gt_of 1138 (by decide +kernel) rfl
theorem cl_X9_106 : Cond.constantLong RX9 106 (9) ∈ gt := gt_of 1139 (by decide +kernel) rfl
theorem cl_X9_108 : Cond.constantLong RX9 108 (20) ∈ gt := gt_of 1140 (by decide +kernel) rfl
theorem cl_X9_110 : Cond.constantLong RX9 110 (6) ∈ gt := gt_of 1145 (by decide +kernel) rfl
theorem cl_X9_122 : Cond.constantLong RX9 122 (255) ∈ gt := gt_of 1240 (by decide +kernel) rfl
theorem cl_X9_145 : Cond.constantLong RX9 145 (97) ∈ gt := gt_of 1166 (by decide +kernel) rfl
theorem cl_X9_147 : Cond.constantLong RX9 147 (122) ∈ gt := gt_of 1167 (by decide +kernel) rfl
theorem cl_X9_149 : Cond.constantLong RX9 149 (48) ∈ gt := gt_of 1168 (by decide +kernel) rfl
theorem cl_X9_151 : Cond.constantLong RX9 151 (57) ∈ gt := gt_of 1169 (by decide +kernel) rfl
theorem cl_X9_157 : Cond.constantLong RX9 157 (10) ∈ gt := gt_of 1170 (by decide +kernel) rfl
theorem cl_X9_221 : Cond.constantLong RX9 221 (43) ∈ gt := gt_of 1223 (by decide +kernel) rfl
theorem cl_X9_229 : Cond.constantLong RX9 229 (60) ∈ gt := gt_of 1224 (by decide +kernel) rfl
theorem cl_X9_286 : Cond.constantLong RX9 286 (4) ∈ gt := gt_of 1257 (by decide +kernel) rfl
theorem cl_X9_288 : Cond.constantLong RX9 288 (49) ∈ gt := gt_of 1258 (by decide +kernel) rfl
theorem cl_X9_322 : Cond.constantLong RX9 322 (2) ∈ gt := gt_of 1308 (by decide +kernel) rfl
theorem cl_X9_324 : Cond.constantLong RX9 324 (99) ∈ gt := gt_of 1321 (by decide +kernel) rfl
theorem cl_X9_335 : Cond.constantLong RX9 335 (40) ∈ gt := gt_of 1349 (by decide +kernel) rfl
theorem cl_X9_337 : Cond.constantLong RX9 337 (3) ∈ gt := gt_of 1299 (by decide +kernel) rfl
theorem cl_X9_339 : Cond.constantLong RX9 339 (15) ∈ gt := gt_of 1354 (by decide +kernel) rfl
theorem cl_X9_350 : Cond.constantLong RX9 350 (-4611686018427387904) ∈ gt := gt_of 1371 (by decide +kernel) rfl
theorem cl_X9_362 : Cond.constantLong RX9 362 (-1) ∈ gt := gt_of 1380 (by decide +kernel) rfl
set_option maxRecDepth 100000 in
theorem co_J0_length_8abf5 : Cond.code yJ0_length_8abf5 cJ0_length_8abf5 1 (some .int) ∈ gt := gt_of 342 rfl rfl
theorem ins_J0_length_8abf5 : Cond.instanceMethod yJ0_length_8abf5 ∈ gt := gt_of 340 (by decide +kernel) rfl
theorem sel_J0_length_8abf5 : Cond.selects (yJ0_length_8abf5).cls yJ0_length_8abf5 yJ0_length_8abf5 ∈ gt := gt_of 341 (by decide +kernel) rfl
theorem ini_J0 : Cond.initialized RJ0 ∈ gt := gt_of 90 (by decide +kernel) rfl
theorem mv_X8_75 : MV RX8 75 yJ0_length_8abf5 cJ0_length_8abf5 1 (some .int) 0 := ⟨Or.inl (gt_of 339 (by decide +kernel) rfl), ins_J0_length_8abf5, sel_J0_length_8abf5, ini_J0, co_J0_length_8abf5, ⟨by decide +kernel, by decide +kernel, by decide +kernel⟩, by decide⟩
set_option maxRecDepth 100000 in
theorem co_J0_charAt_5068e : Cond.code yJ0_charAt_5068e cJ0_charAt_5068e 2 (some .char) ∈ gt := gt_of 352 rfl rfl
theorem ins_J0_charAt_5068e : Cond.instanceMethod yJ0_charAt_5068e ∈ gt := gt_of 350 (by decide +kernel) rfl
theorem sel_J0_charAt_5068e : Cond.selects (yJ0_charAt_5068e).cls yJ0_charAt_5068e yJ0_charAt_5068e ∈ gt := gt_of 351 (by decide +kernel) rfl
theorem mv_X8_81 : MV RX8 81 yJ0_charAt_5068e cJ0_charAt_5068e 2 (some .char) 1 := ⟨Or.inl (gt_of 349 (by decide +kernel) rfl), ins_J0_charAt_5068e, sel_J0_charAt_5068e, ini_J0, co_J0_charAt_5068e, ⟨by decide +kernel, by decide +kernel, by decide +kernel⟩, by decide⟩
set_option maxRecDepth 100000 in
theorem co_X6_add : Cond.code yX6_add cX6_add 2 (some .int) ∈ gt := gt_of 390 rfl rfl
theorem ins_X6_add : Cond.instanceMethod yX6_add ∈ gt := gt_of 388 (by decide +kernel) rfl
theorem sel_X6_add : Cond.selects (yX6_add).cls yX6_add yX6_add ∈ gt := gt_of 389 (by decide +kernel) rfl
theorem ini_X6 : Cond.initialized RX6 ∈ gt := gt_of 84 (by decide +kernel) rfl
theorem mv_X8_85 : MV RX8 85 yX6_add cX6_add 2 (some .int) 1 := ⟨Or.inl (gt_of 387 (by decide +kernel) rfl), ins_X6_add, sel_X6_add, ini_X6, co_X6_add, ⟨by decide +kernel, by decide +kernel, by decide +kernel⟩, by decide⟩
set_option maxRecDepth 100000 in
theorem co_X8_learn : Cond.code yX8_learn cX8_learn 2 (some .int) ∈ gt := gt_of 394 rfl rfl
theorem ins_X8_learn : Cond.instanceMethod yX8_learn ∈ gt := gt_of 393 (by decide +kernel) rfl
theorem sel_X8_learn : Cond.selects (yX8_learn).cls yX8_learn yX8_learn ∈ gt := gt_of 0 (by decide +kernel) rfl
theorem ini_X8 : Cond.initialized RX8 ∈ gt := gt_of 82 (by decide +kernel) rfl
theorem mv_X8_89 : MV RX8 89 yX8_learn cX8_learn 2 (some .int) 0 := ⟨Or.inl (gt_of 391 (by decide +kernel) rfl), ins_X8_learn, sel_X8_learn, ini_X8, co_X8_learn, ⟨by decide +kernel, by decide +kernel, by decide +kernel⟩, by decide⟩
set_option maxRecDepth 100000 in
theorem co_X5_has : Cond.code yX5_has cX5_has 2 (some .boolean) ∈ gt := gt_of 629 rfl rfl
theorem ins_X5_has : Cond.instanceMethod yX5_has ∈ gt := gt_of 627 (by decide +kernel) rfl
theorem sel_X5_has : Cond.selects (yX5_has).cls yX5_has yX5_has ∈ gt := gt_of 628 (by decide +kernel) rfl
theorem ini_X5 : Cond.initialized RX5 ∈ gt := gt_of 83 (by decide +kernel) rfl
theorem mv_X8_99 : MV RX8 99 yX5_has cX5_has 2 (some .boolean) 1 := ⟨Or.inl (gt_of 626 (by decide +kernel) rfl), ins_X5_has, sel_X5_has, ini_X5, co_X5_has, ⟨by decide +kernel, by decide +kernel, by decide +kernel⟩, by decide⟩
set_option maxRecDepth 100000 in
theorem co_X5_rowOf : Cond.code yX5_rowOf cX5_rowOf 2 (some (.array .int)) ∈ gt := gt_of 633 rfl rfl
theorem ins_X5_rowOf : Cond.instanceMethod yX5_rowOf ∈ gt := gt_of 631 (by decide +kernel) rfl
theorem sel_X5_rowOf : Cond.selects (yX5_rowOf).cls yX5_rowOf yX5_rowOf ∈ gt := gt_of 632 (by decide +kernel) rfl
theorem mv_X8_103 : MV RX8 103 yX5_rowOf cX5_rowOf 2 (some (.array .int)) 1 := ⟨Or.inl (gt_of 630 (by decide +kernel) rfl), ins_X5_rowOf, sel_X5_rowOf, ini_X5, co_X5_rowOf, ⟨by decide +kernel, by decide +kernel, by decide +kernel⟩, by decide⟩
set_option maxRecDepth 100000 in
theorem co_X8_isKind : Cond.code yX8_isKind cX8_isKind 1 (some .boolean) ∈ gt := gt_of 640 rfl rfl
theorem sta_X8_isKind : Cond.static yX8_isKind ∈ gt := gt_of 639 (by decide +kernel) rfl
theorem ms_X8_107 : MS RX8 107 yX8_isKind cX8_isKind 1 (some .boolean) 1 := ⟨Or.inl (gt_of 638 (by decide +kernel) rfl), sta_X8_isKind, ini_X8, co_X8_isKind, ⟨by decide +kernel, by decide +kernel, by decide +kernel⟩, by decide⟩
set_option maxRecDepth 100000 in
theorem co_X5_add : Cond.code yX5_add cX5_add 4 (some .int) ∈ gt := gt_of 644 rfl rfl
theorem ins_X5_add : Cond.instanceMethod yX5_add ∈ gt := gt_of 642 (by decide +kernel) rfl
theorem sel_X5_add : Cond.selects (yX5_add).cls yX5_add yX5_add ∈ gt := gt_of 643 (by decide +kernel) rfl
theorem mv_X8_110 : MV RX8 110 yX5_add cX5_add 4 (some .int) 3 := ⟨Or.inl (gt_of 641 (by decide +kernel) rfl), ins_X5_add, sel_X5_add, ini_X5, co_X5_add, ⟨by decide +kernel, by decide +kernel, by decide +kernel⟩, by decide⟩
set_option maxRecDepth 100000 in
theorem co_X8_reckoned : Cond.code yX8_reckoned cX8_reckoned 3 (some .int) ∈ gt := gt_of 652 rfl rfl
theorem ins_X8_reckoned : Cond.instanceMethod yX8_reckoned ∈ gt := gt_of 651 (by decide +kernel) rfl
theorem sel_X8_reckoned : Cond.selects (yX8_reckoned).cls yX8_reckoned yX8_reckoned ∈ gt := gt_of 21 (by decide +kernel) rfl
theorem mv_X8_125 : MV RX8 125 yX8_reckoned cX8_reckoned 3 (some .int) 2 := ⟨Or.inl (gt_of 649 (by decide +kernel) rfl), ins_X8_reckoned, sel_X8_reckoned, ini_X8, co_X8_reckoned, ⟨by decide +kernel, by decide +kernel, by decide +kernel⟩, by decide⟩
set_option maxRecDepth 100000 in
theorem co_X8_startTrial : Cond.code yX8_startTrial cX8_startTrial 2 none ∈ gt := gt_of 656 rfl rfl
theorem ins_X8_startTrial : Cond.instanceMethod yX8_startTrial ∈ gt := gt_of 655 (by decide +kernel) rfl
theorem sel_X8_startTrial : Cond.selects (yX8_startTrial).cls yX8_startTrial yX8_startTrial ∈ gt := gt_of 22 (by decide +kernel) rfl
theorem mv_X8_129 : MV RX8 129 yX8_startTrial cX8_startTrial 2 none 0 := ⟨Or.inl (gt_of 653 (by decide +kernel) rfl), ins_X8_startTrial, sel_X8_startTrial, ini_X8, co_X8_startTrial, ⟨by decide +kernel, by decide +kernel, by decide +kernel⟩, by decide⟩
set_option maxRecDepth 100000 in
theorem co_X0_reckon : Cond.code yX0_reckon cX0_reckon 4 none ∈ gt := gt_of 668 rfl rfl
theorem ins_X0_reckon : Cond.instanceMethod yX0_reckon ∈ gt := gt_of 666 (by decide +kernel) rfl
theorem sel_X0_reckon : Cond.selects (yX0_reckon).cls yX0_reckon yX0_reckon ∈ gt := gt_of 667 (by decide +kernel) rfl
theorem ini_X0 : Cond.initialized RX0 ∈ gt := gt_of 87 (by decide +kernel) rfl
theorem mv_X8_132 : MV RX8 132 yX0_reckon cX0_reckon 4 none 0 := ⟨Or.inl (gt_of 665 (by decide +kernel) rfl), ins_X0_reckon, sel_X0_reckon, ini_X0, co_X0_reckon, ⟨by decide +kernel, by decide +kernel, by decide +kernel⟩, by decide⟩
set_option maxRecDepth 100000 in
theorem co_X3_read : Cond.code yX3_read cX3_read 2 (some .int) ∈ gt := gt_of 398 rfl rfl
theorem ins_X3_read : Cond.instanceMethod yX3_read ∈ gt := gt_of 396 (by decide +kernel) rfl
theorem sel_X3_read : Cond.selects (yX3_read).cls yX3_read yX3_read ∈ gt := gt_of 397 (by decide +kernel) rfl
theorem ini_X3 : Cond.initialized RX3 ∈ gt := gt_of 85 (by decide +kernel) rfl
theorem mv_X8_144 : MV RX8 144 yX3_read cX3_read 2 (some .int) 0 := ⟨Or.inl (gt_of 395 (by decide +kernel) rfl), ins_X3_read, sel_X3_read, ini_X3, co_X3_read, ⟨by decide +kernel, by decide +kernel, by decide +kernel⟩, by decide⟩
set_option maxRecDepth 100000 in
theorem co_X6_clear : Cond.code yX6_clear cX6_clear 1 none ∈ gt := gt_of 581 rfl rfl
theorem ins_X6_clear : Cond.instanceMethod yX6_clear ∈ gt := gt_of 579 (by decide +kernel) rfl
theorem sel_X6_clear : Cond.selects (yX6_clear).cls yX6_clear yX6_clear ∈ gt := gt_of 580 (by decide +kernel) rfl
theorem mv_X8_147 : MV RX8 147 yX6_clear cX6_clear 1 none 0 := ⟨Or.inl (gt_of 578 (by decide +kernel) rfl), ins_X6_clear, sel_X6_clear, ini_X6, co_X6_clear, ⟨by decide +kernel, by decide +kernel, by decide +kernel⟩, by decide⟩
set_option maxRecDepth 100000 in
theorem co_X7_become : Cond.code yX7_become cX7_become 3 none ∈ gt := gt_of 585 rfl rfl
theorem ins_X7_become : Cond.instanceMethod yX7_become ∈ gt := gt_of 583 (by decide +kernel) rfl
theorem sel_X7_become : Cond.selects (yX7_become).cls yX7_become yX7_become ∈ gt := gt_of 584 (by decide +kernel) rfl
theorem ini_X7 : Cond.initialized RX7 ∈ gt := gt_of 86 (by decide +kernel) rfl
theorem mv_X8_154 : MV RX8 154 yX7_become cX7_become 3 none 1 := ⟨Or.inl (gt_of 582 (by decide +kernel) rfl), ins_X7_become, sel_X7_become, ini_X7, co_X7_become, ⟨by decide +kernel, by decide +kernel, by decide +kernel⟩, by decide⟩
set_option maxRecDepth 100000 in
theorem co_X8_isOfDay : Cond.code yX8_isOfDay cX8_isOfDay 2 (some .boolean) ∈ gt := gt_of 716 rfl rfl
theorem ins_X8_isOfDay : Cond.instanceMethod yX8_isOfDay ∈ gt := gt_of 715 (by decide +kernel) rfl
theorem sel_X8_isOfDay : Cond.selects (yX8_isOfDay).cls yX8_isOfDay yX8_isOfDay ∈ gt := gt_of 24 (by decide +kernel) rfl
theorem mv_X8_161 : MV RX8 161 yX8_isOfDay cX8_isOfDay 2 (some .boolean) 1 := ⟨Or.inl (gt_of 713 (by decide +kernel) rfl), ins_X8_isOfDay, sel_X8_isOfDay, ini_X8, co_X8_isOfDay, ⟨by decide +kernel, by decide +kernel, by decide +kernel⟩, by decide⟩
set_option maxRecDepth 100000 in
theorem co_X0_live : Cond.code yX0_live cX0_live 3 none ∈ gt := gt_of 721 rfl rfl
theorem ins_X0_live : Cond.instanceMethod yX0_live ∈ gt := gt_of 719 (by decide +kernel) rfl
theorem sel_X0_live : Cond.selects (yX0_live).cls yX0_live yX0_live ∈ gt := gt_of 720 (by decide +kernel) rfl
theorem mv_X8_165 : MV RX8 165 yX0_live cX0_live 3 none 0 := ⟨Or.inl (gt_of 718 (by decide +kernel) rfl), ins_X0_live, sel_X0_live, ini_X0, co_X0_live, ⟨by decide +kernel, by decide +kernel, by decide +kernel⟩, by decide⟩
set_option maxRecDepth 100000 in
theorem co_X8_ofDay : Cond.code yX8_ofDay cX8_ofDay 2 (some .int) ∈ gt := gt_of 753 rfl rfl
theorem ins_X8_ofDay : Cond.instanceMethod yX8_ofDay ∈ gt := gt_of 752 (by decide +kernel) rfl
theorem sel_X8_ofDay : Cond.selects (yX8_ofDay).cls yX8_ofDay yX8_ofDay ∈ gt := gt_of 32 (by decide +kernel) rfl
theorem mv_X8_168 : MV RX8 168 yX8_ofDay cX8_ofDay 2 (some .int) 1 := ⟨Or.inl (gt_of 750 (by decide +kernel) rfl), ins_X8_ofDay, sel_X8_ofDay, ini_X8, co_X8_ofDay, ⟨by decide +kernel, by decide +kernel, by decide +kernel⟩, by decide⟩
set_option maxRecDepth 100000 in
theorem co_X8_sheetAt : Cond.code yX8_sheetAt cX8_sheetAt 2 (some (.object "BeforeItGoes$Sheet")) ∈ gt := gt_of 773 rfl rfl
theorem ins_X8_sheetAt : Cond.instanceMethod yX8_sheetAt ∈ gt := gt_of 772 (by decide +kernel) rfl
theorem sel_X8_sheetAt : Cond.selects (yX8_sheetAt).cls yX8_sheetAt yX8_sheetAt ∈ gt := gt_of 34 (by decide +kernel) rfl
theorem mv_X8_171 : MV RX8 171 yX8_sheetAt cX8_sheetAt 2 (some (.object "BeforeItGoes$Sheet")) 1 := ⟨Or.inl (gt_of 770 (by decide +kernel) rfl), ins_X8_sheetAt, sel_X8_sheetAt, ini_X8, co_X8_sheetAt, ⟨by decide +kernel, by decide +kernel, by decide +kernel⟩, by decide⟩
set_option maxRecDepth 100000 in
theorem co_X8_startOrder : Cond.code yX8_startOrder cX8_startOrder 5 (some .boolean) ∈ gt := gt_of 777 rfl rfl
theorem ins_X8_startOrder : Cond.instanceMethod yX8_startOrder ∈ gt := gt_of 776 (by decide +kernel) rfl
theorem sel_X8_startOrder : Cond.selects (yX8_startOrder).cls yX8_startOrder yX8_startOrder ∈ gt := gt_of 35 (by decide +kernel) rfl
theorem mv_X8_175 : MV RX8 175 yX8_startOrder cX8_startOrder 5 (some .boolean) 1 := ⟨Or.inl (gt_of 774 (by decide +kernel) rfl), ins_X8_startOrder, sel_X8_startOrder, ini_X8, co_X8_startOrder, ⟨by decide +kernel, by decide +kernel, by decide +kernel⟩, by decide⟩
set_option maxRecDepth 100000 in
theorem co_X4_isMissing : Cond.code yX4_isMissing cX4_isMissing 1 (some .boolean) ∈ gt := gt_of 781 rfl rfl
theorem ins_X4_isMissing : Cond.instanceMethod yX4_isMissing ∈ gt := gt_of 779 (by decide +kernel) rfl
theorem sel_X4_isMissing : Cond.selects (yX4_isMissing).cls yX4_isMissing yX4_isMissing ∈ gt := gt_of 780 (by decide +kernel) rfl
theorem ini_X4 : Cond.initialized RX4 ∈ gt := gt_of 89 (by decide +kernel) rfl
theorem mv_X8_179 : MV RX8 179 yX4_isMissing cX4_isMissing 1 (some .boolean) 0 := ⟨Or.inl (gt_of 778 (by decide +kernel) rfl), ins_X4_isMissing, sel_X4_isMissing, ini_X4, co_X4_isMissing, ⟨by decide +kernel, by decide +kernel, by decide +kernel⟩, by decide⟩
set_option maxRecDepth 100000 in
theorem co_X0_place : Cond.code yX0_place cX0_place 3 none ∈ gt := gt_of 664 rfl rfl
theorem ins_X0_place : Cond.instanceMethod yX0_place ∈ gt := gt_of 662 (by decide +kernel) rfl
theorem sel_X0_place : Cond.selects (yX0_place).cls yX0_place yX0_place ∈ gt := gt_of 663 (by decide +kernel) rfl
theorem mv_X8_190 : MV RX8 190 yX0_place cX0_place 3 none 2 := ⟨Or.inl (gt_of 661 (by decide +kernel) rfl), ins_X0_place, sel_X0_place, ini_X0, co_X0_place, ⟨by decide +kernel, by decide +kernel, by decide +kernel⟩, by decide⟩
set_option maxRecDepth 100000 in
theorem co_X0_late : Cond.code yX0_late cX0_late 3 (some .int) ∈ gt := gt_of 757 rfl rfl
theorem ins_X0_late : Cond.instanceMethod yX0_late ∈ gt := gt_of 755 (by decide +kernel) rfl
theorem sel_X0_late : Cond.selects (yX0_late).cls yX0_late yX0_late ∈ gt := gt_of 756 (by decide +kernel) rfl
theorem mv_X8_203 : MV RX8 203 yX0_late cX0_late 3 (some .int) 0 := ⟨Or.inl (gt_of 754 (by decide +kernel) rfl), ins_X0_late, sel_X0_late, ini_X0, co_X0_late, ⟨by decide +kernel, by decide +kernel, by decide +kernel⟩, by decide⟩
set_option maxRecDepth 100000 in
theorem co_X0_early : Cond.code yX0_early cX0_early 3 (some .int) ∈ gt := gt_of 761 rfl rfl
theorem ins_X0_early : Cond.instanceMethod yX0_early ∈ gt := gt_of 759 (by decide +kernel) rfl
theorem sel_X0_early : Cond.selects (yX0_early).cls yX0_early yX0_early ∈ gt := gt_of 760 (by decide +kernel) rfl
theorem mv_X8_206 : MV RX8 206 yX0_early cX0_early 3 (some .int) 0 := ⟨Or.inl (gt_of 758 (by decide +kernel) rfl), ins_X0_early, sel_X0_early, ini_X0, co_X0_early, ⟨by decide +kernel, by decide +kernel, by decide +kernel⟩, by decide⟩
set_option maxRecDepth 100000 in
theorem co_X8_ofWallsDay : Cond.code yX8_ofWallsDay cX8_ofWallsDay 3 (some .int) ∈ gt := gt_of 765 rfl rfl
theorem ins_X8_ofWallsDay : Cond.instanceMethod yX8_ofWallsDay ∈ gt := gt_of 764 (by decide +kernel) rfl
theorem sel_X8_ofWallsDay : Cond.selects (yX8_ofWallsDay).cls yX8_ofWallsDay yX8_ofWallsDay ∈ gt := gt_of 33 (by decide +kernel) rfl
theorem mv_X8_209 : MV RX8 209 yX8_ofWallsDay cX8_ofWallsDay 3 (some .int) 2 := ⟨Or.inl (gt_of 762 (by decide +kernel) rfl), ins_X8_ofWallsDay, sel_X8_ofWallsDay, ini_X8, co_X8_ofWallsDay, ⟨by decide +kernel, by decide +kernel, by decide +kernel⟩, by decide⟩
set_option maxRecDepth 100000 in
theorem co_X5_become : Cond.code yX5_become cX5_become 3 none ∈ gt := gt_of 660 rfl rfl
theorem ins_X5_become : Cond.instanceMethod yX5_become ∈ gt := gt_of 658 (by decide +kernel) rfl
theorem sel_X5_become : Cond.selects (yX5_become).cls yX5_become yX5_become ∈ gt := gt_of 659 (by decide +kernel) rfl
theorem mv_X8_225 : MV RX8 225 yX5_become cX5_become 3 none 1 := ⟨Or.inl (gt_of 657 (by decide +kernel) rfl), ins_X5_become, sel_X5_become, ini_X5, co_X5_become, ⟨by decide +kernel, by decide +kernel, by decide +kernel⟩, by decide⟩
set_option maxRecDepth 100000 in
theorem co_X5_turn : Cond.code yX5_turn cX5_turn 3 none ∈ gt := gt_of 817 rfl rfl
theorem ins_X5_turn : Cond.instanceMethod yX5_turn ∈ gt := gt_of 815 (by decide +kernel) rfl
theorem sel_X5_turn : Cond.selects (yX5_turn).cls yX5_turn yX5_turn ∈ gt := gt_of 816 (by decide +kernel) rfl
theorem mv_X8_228 : MV RX8 228 yX5_turn cX5_turn 3 none 2 := ⟨Or.inl (gt_of 814 (by decide +kernel) rfl), ins_X5_turn, sel_X5_turn, ini_X5, co_X5_turn, ⟨by decide +kernel, by decide +kernel, by decide +kernel⟩, by decide⟩
set_option maxRecDepth 100000 in
theorem co_X2_clear : Cond.code yX2_clear cX2_clear 1 none ∈ gt := gt_of 789 rfl rfl
theorem ins_X2_clear : Cond.instanceMethod yX2_clear ∈ gt := gt_of 787 (by decide +kernel) rfl
theorem sel_X2_clear : Cond.selects (yX2_clear).cls yX2_clear yX2_clear ∈ gt := gt_of 788 (by decide +kernel) rfl
theorem ini_X2 : Cond.initialized RX2 ∈ gt := gt_of 88 (by decide +kernel) rfl
theorem mv_X8_231 : MV RX8 231 yX2_clear cX2_clear 1 none 0 := ⟨Or.inl (gt_of 786 (by decide +kernel) rfl), ins_X2_clear, sel_X2_clear, ini_X2, co_X2_clear, ⟨by decide +kernel, by decide +kernel, by decide +kernel⟩, by decide⟩
set_option maxRecDepth 100000 in
theorem co_X0_rowAsDigits : Cond.code yX0_rowAsDigits cX0_rowAsDigits 3 (some .int) ∈ gt := gt_of 793 rfl rfl
theorem ins_X0_rowAsDigits : Cond.instanceMethod yX0_rowAsDigits ∈ gt := gt_of 791 (by decide +kernel) rfl
theorem sel_X0_rowAsDigits : Cond.selects (yX0_rowAsDigits).cls yX0_rowAsDigits yX0_rowAsDigits ∈ gt := gt_of 792 (by decide +kernel) rfl
theorem mv_X8_232 : MV RX8 232 yX0_rowAsDigits cX0_rowAsDigits 3 (some .int) 0 := ⟨Or.inl (gt_of 790 (by decide +kernel) rfl), ins_X0_rowAsDigits, sel_X0_rowAsDigits, ini_X0, co_X0_rowAsDigits, ⟨by decide +kernel, by decide +kernel, by decide +kernel⟩, by decide⟩
set_option maxRecDepth 100000 in
theorem co_X2_offer : Cond.code yX2_offer cX2_offer 4 none ∈ gt := gt_of 797 rfl rfl
theorem ins_X2_offer : Cond.instanceMethod yX2_offer ∈ gt := gt_of 795 (by decide +kernel) rfl
theorem sel_X2_offer : Cond.selects (yX2_offer).cls yX2_offer yX2_offer ∈ gt := gt_of 796 (by decide +kernel) rfl
theorem mv_X8_235 : MV RX8 235 yX2_offer cX2_offer 4 none 3 := ⟨Or.inl (gt_of 794 (by decide +kernel) rfl), ins_X2_offer, sel_X2_offer, ini_X2, co_X2_offer, ⟨by decide +kernel, by decide +kernel, by decide +kernel⟩, by decide⟩
set_option maxRecDepth 100000 in
theorem co_X0_nextRow : Cond.code yX0_nextRow cX0_nextRow 6 (some .boolean) ∈ gt := gt_of 801 rfl rfl
theorem ins_X0_nextRow : Cond.instanceMethod yX0_nextRow ∈ gt := gt_of 799 (by decide +kernel) rfl
theorem sel_X0_nextRow : Cond.selects (yX0_nextRow).cls yX0_nextRow yX0_nextRow ∈ gt := gt_of 800 (by decide +kernel) rfl
theorem mv_X8_239 : MV RX8 239 yX0_nextRow cX0_nextRow 6 (some .boolean) 0 := ⟨Or.inl (gt_of 798 (by decide +kernel) rfl), ins_X0_nextRow, sel_X0_nextRow, ini_X0, co_X0_nextRow, ⟨by decide +kernel, by decide +kernel, by decide +kernel⟩, by decide⟩
set_option maxRecDepth 100000 in
theorem co_X8_liveWith : Cond.code yX8_liveWith cX8_liveWith 3 none ∈ gt := gt_of 813 rfl rfl
theorem ins_X8_liveWith : Cond.instanceMethod yX8_liveWith ∈ gt := gt_of 812 (by decide +kernel) rfl
theorem sel_X8_liveWith : Cond.selects (yX8_liveWith).cls yX8_liveWith yX8_liveWith ∈ gt := gt_of 37 (by decide +kernel) rfl
theorem mv_X8_249 : MV RX8 249 yX8_liveWith cX8_liveWith 3 none 2 := ⟨Or.inl (gt_of 810 (by decide +kernel) rfl), ins_X8_liveWith, sel_X8_liveWith, ini_X8, co_X8_liveWith, ⟨by decide +kernel, by decide +kernel, by decide +kernel⟩, by decide⟩
set_option maxRecDepth 100000 in
theorem co_X5_wetJust : Cond.code yX5_wetJust cX5_wetJust 3 none ∈ gt := gt_of 825 rfl rfl
theorem ins_X5_wetJust : Cond.instanceMethod yX5_wetJust ∈ gt := gt_of 823 (by decide +kernel) rfl
theorem sel_X5_wetJust : Cond.selects (yX5_wetJust).cls yX5_wetJust yX5_wetJust ∈ gt := gt_of 824 (by decide +kernel) rfl
theorem mv_X8_252 : MV RX8 252 yX5_wetJust cX5_wetJust 3 none 1 := ⟨Or.inl (gt_of 822 (by decide +kernel) rfl), ins_X5_wetJust, sel_X5_wetJust, ini_X5, co_X5_wetJust, ⟨by decide +kernel, by decide +kernel, by decide +kernel⟩, by decide⟩
set_option maxRecDepth 100000 in
theorem co_J6_bitCount_0f7a4 : Cond.code yJ6_bitCount_0f7a4 cJ6_bitCount_0f7a4 1 (some .int) ∈ gt := gt_of 828 rfl rfl
theorem sta_J6_bitCount_0f7a4 : Cond.static yJ6_bitCount_0f7a4 ∈ gt := gt_of 827 (by decide +kernel) rfl
theorem ini_J6 : Cond.initialized RJ6 ∈ gt := gt_of 98 (by decide +kernel) rfl
theorem ms_X8_256 : MS RX8 256 yJ6_bitCount_0f7a4 cJ6_bitCount_0f7a4 1 (some .int) 1 := ⟨Or.inl (gt_of 826 (by decide +kernel) rfl), sta_J6_bitCount_0f7a4, ini_J6, co_J6_bitCount_0f7a4, ⟨by decide +kernel, by decide +kernel, by decide +kernel⟩, by decide⟩
set_option maxRecDepth 100000 in
theorem co_X8_notSo : Cond.code yX8_notSo cX8_notSo 2 (some .int) ∈ gt := gt_of 855 rfl rfl
theorem ins_X8_notSo : Cond.instanceMethod yX8_notSo ∈ gt := gt_of 854 (by decide +kernel) rfl
theorem sel_X8_notSo : Cond.selects (yX8_notSo).cls yX8_notSo yX8_notSo ∈ gt := gt_of 38 (by decide +kernel) rfl
theorem mv_X8_261 : MV RX8 261 yX8_notSo cX8_notSo 2 (some .int) 1 := ⟨Or.inl (gt_of 852 (by decide +kernel) rfl), ins_X8_notSo, sel_X8_notSo, ini_X8, co_X8_notSo, ⟨by decide +kernel, by decide +kernel, by decide +kernel⟩, by decide⟩
set_option maxRecDepth 100000 in
theorem co_X8_dialsOf : Cond.code yX8_dialsOf cX8_dialsOf 6 (some .long) ∈ gt := gt_of 863 rfl rfl
theorem ins_X8_dialsOf : Cond.instanceMethod yX8_dialsOf ∈ gt := gt_of 862 (by decide +kernel) rfl
theorem sel_X8_dialsOf : Cond.selects (yX8_dialsOf).cls yX8_dialsOf yX8_dialsOf ∈ gt := gt_of 39 (by decide +kernel) rfl
theorem mv_X8_265 : MV RX8 265 yX8_dialsOf cX8_dialsOf 6 (some .long) 2 := ⟨Or.inl (gt_of 860 (by decide +kernel) rfl), ins_X8_dialsOf, sel_X8_dialsOf, ini_X8, co_X8_dialsOf, ⟨by decide +kernel, by decide +kernel, by decide +kernel⟩, by decide⟩
set_option maxRecDepth 100000 in
theorem co_X8_textsOf : Cond.code yX8_textsOf cX8_textsOf 4 (some .int) ∈ gt := gt_of 867 rfl rfl
theorem ins_X8_textsOf : Cond.instanceMethod yX8_textsOf ∈ gt := gt_of 866 (by decide +kernel) rfl
theorem sel_X8_textsOf : Cond.selects (yX8_textsOf).cls yX8_textsOf yX8_textsOf ∈ gt := gt_of 40 (by decide +kernel) rfl
theorem mv_X8_269 : MV RX8 269 yX8_textsOf cX8_textsOf 4 (some .int) 1 := ⟨Or.inl (gt_of 864 (by decide +kernel) rfl), ins_X8_textsOf, sel_X8_textsOf, ini_X8, co_X8_textsOf, ⟨by decide +kernel, by decide +kernel, by decide +kernel⟩, by decide⟩
set_option maxRecDepth 100000 in
theorem co_X8_kindsOf : Cond.code yX8_kindsOf cX8_kindsOf 5 (some .int) ∈ gt := gt_of 871 rfl rfl
theorem ins_X8_kindsOf : Cond.instanceMethod yX8_kindsOf ∈ gt := gt_of 870 (by decide +kernel) rfl
theorem sel_X8_kindsOf : Cond.selects (yX8_kindsOf).cls yX8_kindsOf yX8_kindsOf ∈ gt := gt_of 41 (by decide +kernel) rfl
theorem mv_X8_272 : MV RX8 272 yX8_kindsOf cX8_kindsOf 5 (some .int) 2 := ⟨Or.inl (gt_of 868 (by decide +kernel) rfl), ins_X8_kindsOf, sel_X8_kindsOf, ini_X8, co_X8_kindsOf, ⟨by decide +kernel, by decide +kernel, by decide +kernel⟩, by decide⟩
set_option maxRecDepth 100000 in
theorem co_X0_unlike : Cond.code yX0_unlike cX0_unlike 4 (some .int) ∈ gt := gt_of 859 rfl rfl
theorem ins_X0_unlike : Cond.instanceMethod yX0_unlike ∈ gt := gt_of 857 (by decide +kernel) rfl
theorem sel_X0_unlike : Cond.selects (yX0_unlike).cls yX0_unlike yX0_unlike ∈ gt := gt_of 858 (by decide +kernel) rfl
theorem mv_X8_278 : MV RX8 278 yX0_unlike cX0_unlike 4 (some .int) 1 := ⟨Or.inl (gt_of 856 (by decide +kernel) rfl), ins_X0_unlike, sel_X0_unlike, ini_X0, co_X0_unlike, ⟨by decide +kernel, by decide +kernel, by decide +kernel⟩, by decide⟩
set_option maxRecDepth 100000 in
theorem co_X4_become : Cond.code yX4_become cX4_become 4 none ∈ gt := gt_of 884 rfl rfl
theorem ins_X4_become : Cond.instanceMethod yX4_become ∈ gt := gt_of 882 (by decide +kernel) rfl
theorem sel_X4_become : Cond.selects (yX4_become).cls yX4_become yX4_become ∈ gt := gt_of 883 (by decide +kernel) rfl
theorem mv_X8_281 : MV RX8 281 yX4_become cX4_become 4 none 2 := ⟨Or.inl (gt_of 881 (by decide +kernel) rfl), ins_X4_become, sel_X4_become, ini_X4, co_X4_become, ⟨by decide +kernel, by decide +kernel, by decide +kernel⟩, by decide⟩
set_option maxRecDepth 100000 in
theorem co_X4_put : Cond.code yX4_put cX4_put 3 none ∈ gt := gt_of 888 rfl rfl
theorem ins_X4_put : Cond.instanceMethod yX4_put ∈ gt := gt_of 886 (by decide +kernel) rfl
theorem sel_X4_put : Cond.selects (yX4_put).cls yX4_put yX4_put ∈ gt := gt_of 887 (by decide +kernel) rfl
theorem mv_X8_283 : MV RX8 283 yX4_put cX4_put 3 none 2 := ⟨Or.inl (gt_of 885 (by decide +kernel) rfl), ins_X4_put, sel_X4_put, ini_X4, co_X4_put, ⟨by decide +kernel, by decide +kernel, by decide +kernel⟩, by decide⟩
set_option maxRecDepth 100000 in
theorem co_X8_warmOf : Cond.code yX8_warmOf cX8_warmOf 2 (some .int) ∈ gt := gt_of 899 rfl rfl
theorem sta_X8_warmOf : Cond.static yX8_warmOf ∈ gt := gt_of 898 (by decide +kernel) rfl
theorem ms_X8_286 : MS RX8 286 yX8_warmOf cX8_warmOf 2 (some .int) 1 := ⟨Or.inl (gt_of 897 (by decide +kernel) rfl), sta_X8_warmOf, ini_X8, co_X8_warmOf, ⟨by decide +kernel, by decide +kernel, by decide +kernel⟩, by decide⟩
set_option maxRecDepth 100000 in
theorem co_X8_commonDivisor : Cond.code yX8_commonDivisor cX8_commonDivisor 3 (some .int) ∈ gt := gt_of 907 rfl rfl
theorem sta_X8_commonDivisor : Cond.static yX8_commonDivisor ∈ gt := gt_of 906 (by decide +kernel) rfl
theorem ms_X8_289 : MS RX8 289 yX8_commonDivisor cX8_commonDivisor 3 (some .int) 2 := ⟨Or.inl (gt_of 905 (by decide +kernel) rfl), sta_X8_commonDivisor, ini_X8, co_X8_commonDivisor, ⟨by decide +kernel, by decide +kernel, by decide +kernel⟩, by decide⟩
set_option maxRecDepth 100000 in
theorem co_X4_has : Cond.code yX4_has cX4_has 2 (some .boolean) ∈ gt := gt_of 892 rfl rfl
theorem ins_X4_has : Cond.instanceMethod yX4_has ∈ gt := gt_of 890 (by decide +kernel) rfl
theorem sel_X4_has : Cond.selects (yX4_has).cls yX4_has yX4_has ∈ gt := gt_of 891 (by decide +kernel) rfl
theorem mv_X8_297 : MV RX8 297 yX4_has cX4_has 2 (some .boolean) 1 := ⟨Or.inl (gt_of 928 (by decide +kernel) rfl), ins_X4_has, sel_X4_has, ini_X4, co_X4_has, ⟨by decide +kernel, by decide +kernel, by decide +kernel⟩, by decide⟩
set_option maxRecDepth 100000 in
theorem co_X4_hasRun : Cond.code yX4_hasRun cX4_hasRun 3 (some .boolean) ∈ gt := gt_of 936 rfl rfl
theorem ins_X4_hasRun : Cond.instanceMethod yX4_hasRun ∈ gt := gt_of 934 (by decide +kernel) rfl
theorem sel_X4_hasRun : Cond.selects (yX4_hasRun).cls yX4_hasRun yX4_hasRun ∈ gt := gt_of 935 (by decide +kernel) rfl
theorem mv_X8_301 : MV RX8 301 yX4_hasRun cX4_hasRun 3 (some .boolean) 2 := ⟨Or.inl (gt_of 933 (by decide +kernel) rfl), ins_X4_hasRun, sel_X4_hasRun, ini_X4, co_X4_hasRun, ⟨by decide +kernel, by decide +kernel, by decide +kernel⟩, by decide⟩
set_option maxRecDepth 100000 in
theorem co_X8_wall : Cond.code yX8_wall cX8_wall 4 (some .int) ∈ gt := gt_of 637 rfl rfl
theorem ins_X8_wall : Cond.instanceMethod yX8_wall ∈ gt := gt_of 635 (by decide +kernel) rfl
theorem sel_X8_wall : Cond.selects (yX8_wall).cls yX8_wall yX8_wall ∈ gt := gt_of 636 (by decide +kernel) rfl
theorem mv_X8_311 : MV RX8 311 yX8_wall cX8_wall 4 (some .int) 3 := ⟨Or.inl (gt_of 944 (by decide +kernel) rfl), ins_X8_wall, sel_X8_wall, ini_X8, co_X8_wall, ⟨by decide +kernel, by decide +kernel, by decide +kernel⟩, by decide⟩
set_option maxRecDepth 100000 in
theorem co_X1_isUnder : Cond.code yX1_isUnder cX1_isUnder 2 (some .boolean) ∈ gt := gt_of 951 rfl rfl
theorem sta_X1_isUnder : Cond.static yX1_isUnder ∈ gt := gt_of 950 (by decide +kernel) rfl
theorem ini_X1 : Cond.initialized RX1 ∈ gt := gt_of 97 (by decide +kernel) rfl
theorem ms_X8_314 : MS RX8 314 yX1_isUnder cX1_isUnder 2 (some .boolean) 2 := ⟨Or.inl (gt_of 949 (by decide +kernel) rfl), sta_X1_isUnder, ini_X1, co_X1_isUnder, ⟨by decide +kernel, by decide +kernel, by decide +kernel⟩, by decide⟩
set_option maxRecDepth 100000 in
theorem co_X0_tells : Cond.code yX0_tells cX0_tells 6 (some .int) ∈ gt := gt_of 672 rfl rfl
theorem ins_X0_tells : Cond.instanceMethod yX0_tells ∈ gt := gt_of 671 (by decide +kernel) rfl
theorem sel_X0_tells : Cond.selects (yX0_tells).cls yX0_tells yX0_tells ∈ gt := gt_of 23 (by decide +kernel) rfl
theorem mv_X0_66 : MV RX0 66 yX0_tells cX0_tells 6 (some .int) 3 := ⟨Or.inl (gt_of 669 (by decide +kernel) rfl), ins_X0_tells, sel_X0_tells, ini_X0, co_X0_tells, ⟨by decide +kernel, by decide +kernel, by decide +kernel⟩, by decide⟩
set_option maxRecDepth 100000 in
theorem co_X1_ripens : Cond.code yX1_ripens cX1_ripens 5 (some .int) ∈ gt := gt_of 689 rfl rfl
theorem sta_X1_ripens : Cond.static yX1_ripens ∈ gt := gt_of 688 (by decide +kernel) rfl
theorem ms_X0_70 : MS RX0 70 yX1_ripens cX1_ripens 5 (some .int) 4 := ⟨Or.inl (gt_of 687 (by decide +kernel) rfl), sta_X1_ripens, ini_X1, co_X1_ripens, ⟨by decide +kernel, by decide +kernel, by decide +kernel⟩, by decide⟩
set_option maxRecDepth 100000 in
theorem co_X1_lasts : Cond.code yX1_lasts cX1_lasts 2 (some .int) ∈ gt := gt_of 693 rfl rfl
theorem sta_X1_lasts : Cond.static yX1_lasts ∈ gt := gt_of 692 (by decide +kernel) rfl
theorem ms_X0_75 : MS RX0 75 yX1_lasts cX1_lasts 2 (some .int) 2 := ⟨Or.inl (gt_of 691 (by decide +kernel) rfl), sta_X1_lasts, ini_X1, co_X1_lasts, ⟨by decide +kernel, by decide +kernel, by decide +kernel⟩, by decide⟩
set_option maxRecDepth 100000 in
theorem co_X1_takes : Cond.code yX1_takes cX1_takes 3 (some .int) ∈ gt := gt_of 696 rfl rfl
theorem sta_X1_takes : Cond.static yX1_takes ∈ gt := gt_of 695 (by decide +kernel) rfl
theorem ms_X0_81 : MS RX0 81 yX1_takes cX1_takes 3 (some .int) 3 := ⟨Or.inl (gt_of 694 (by decide +kernel) rfl), sta_X1_takes, ini_X1, co_X1_takes, ⟨by decide +kernel, by decide +kernel, by decide +kernel⟩, by decide⟩
set_option maxRecDepth 100000 in
theorem co_X7_value : Cond.code yX7_value cX7_value 8 (some .int) ∈ gt := gt_of 676 rfl rfl
theorem ins_X7_value : Cond.instanceMethod yX7_value ∈ gt := gt_of 674 (by decide +kernel) rfl
theorem sel_X7_value : Cond.selects (yX7_value).cls yX7_value yX7_value ∈ gt := gt_of 675 (by decide +kernel) rfl
theorem mv_X0_89 : MV RX0 89 yX7_value cX7_value 8 (some .int) 3 := ⟨Or.inl (gt_of 673 (by decide +kernel) rfl), ins_X7_value, sel_X7_value, ini_X7, co_X7_value, ⟨by decide +kernel, by decide +kernel, by decide +kernel⟩, by decide⟩
set_option maxRecDepth 100000 in
theorem co_J9_min_7cf53 : Cond.code yJ9_min_7cf53 cJ9_min_7cf53 2 (some .int) ∈ gt := gt_of 442 rfl rfl
theorem sta_J9_min_7cf53 : Cond.static yJ9_min_7cf53 ∈ gt := gt_of 441 (by decide +kernel) rfl
theorem ini_J9 : Cond.initialized RJ9 ∈ gt := gt_of 94 (by decide +kernel) rfl
theorem ms_X0_101 : MS RX0 101 yJ9_min_7cf53 cJ9_min_7cf53 2 (some .int) 2 := ⟨Or.inl (gt_of 685 (by decide +kernel) rfl), sta_J9_min_7cf53, ini_J9, co_J9_min_7cf53, ⟨by decide +kernel, by decide +kernel, by decide +kernel⟩, by decide⟩
set_option maxRecDepth 100000 in
theorem co_J9_max_7cf53 : Cond.code yJ9_max_7cf53 cJ9_max_7cf53 2 (some .int) ∈ gt := gt_of 439 rfl rfl
theorem sta_J9_max_7cf53 : Cond.static yJ9_max_7cf53 ∈ gt := gt_of 438 (by decide +kernel) rfl
theorem ms_X0_106 : MS RX0 106 yJ9_max_7cf53 cJ9_max_7cf53 2 (some .int) 2 := ⟨Or.inl (gt_of 686 (by decide +kernel) rfl), sta_J9_max_7cf53, ini_J9, co_J9_max_7cf53, ⟨by decide +kernel, by decide +kernel, by decide +kernel⟩, by decide⟩
set_option maxRecDepth 100000 in
theorem co_X0_dawn : Cond.code yX0_dawn cX0_dawn 2 none ∈ gt := gt_of 725 rfl rfl
theorem ins_X0_dawn : Cond.instanceMethod yX0_dawn ∈ gt := gt_of 724 (by decide +kernel) rfl
theorem sel_X0_dawn : Cond.selects (yX0_dawn).cls yX0_dawn yX0_dawn ∈ gt := gt_of 25 (by decide +kernel) rfl
theorem mv_X0_109 : MV RX0 109 yX0_dawn cX0_dawn 2 none 0 := ⟨Or.inl (gt_of 722 (by decide +kernel) rfl), ins_X0_dawn, sel_X0_dawn, ini_X0, co_X0_dawn, ⟨by decide +kernel, by decide +kernel, by decide +kernel⟩, by decide⟩
set_option maxRecDepth 100000 in
theorem co_X0_firstRipe : Cond.code yX0_firstRipe cX0_firstRipe 4 (some .int) ∈ gt := gt_of 729 rfl rfl
theorem ins_X0_firstRipe : Cond.instanceMethod yX0_firstRipe ∈ gt := gt_of 728 (by decide +kernel) rfl
theorem sel_X0_firstRipe : Cond.selects (yX0_firstRipe).cls yX0_firstRipe yX0_firstRipe ∈ gt := gt_of 26 (by decide +kernel) rfl
theorem mv_X0_118 : MV RX0 118 yX0_firstRipe cX0_firstRipe 4 (some .int) 0 := ⟨Or.inl (gt_of 726 (by decide +kernel) rfl), ins_X0_firstRipe, sel_X0_firstRipe, ini_X0, co_X0_firstRipe, ⟨by decide +kernel, by decide +kernel, by decide +kernel⟩, by decide⟩
set_option maxRecDepth 100000 in
theorem co_X0_trowel : Cond.code yX0_trowel cX0_trowel 4 none ∈ gt := gt_of 733 rfl rfl
theorem ins_X0_trowel : Cond.instanceMethod yX0_trowel ∈ gt := gt_of 732 (by decide +kernel) rfl
theorem sel_X0_trowel : Cond.selects (yX0_trowel).cls yX0_trowel yX0_trowel ∈ gt := gt_of 27 (by decide +kernel) rfl
theorem mv_X0_122 : MV RX0 122 yX0_trowel cX0_trowel 4 none 1 := ⟨Or.inl (gt_of 730 (by decide +kernel) rfl), ins_X0_trowel, sel_X0_trowel, ini_X0, co_X0_trowel, ⟨by decide +kernel, by decide +kernel, by decide +kernel⟩, by decide⟩
set_option maxRecDepth 100000 in
theorem co_X0_mayBegin : Cond.code yX0_mayBegin cX0_mayBegin 1 (some .boolean) ∈ gt := gt_of 737 rfl rfl
theorem ins_X0_mayBegin : Cond.instanceMethod yX0_mayBegin ∈ gt := gt_of 736 (by decide +kernel) rfl
theorem sel_X0_mayBegin : Cond.selects (yX0_mayBegin).cls yX0_mayBegin yX0_mayBegin ∈ gt := gt_of 28 (by decide +kernel) rfl
theorem mv_X0_126 : MV RX0 126 yX0_mayBegin cX0_mayBegin 1 (some .boolean) 0 := ⟨Or.inl (gt_of 734 (by decide +kernel) rfl), ins_X0_mayBegin, sel_X0_mayBegin, ini_X0, co_X0_mayBegin, ⟨by decide +kernel, by decide +kernel, by decide +kernel⟩, by decide⟩
set_option maxRecDepth 100000 in
theorem co_X0_begin : Cond.code yX0_begin cX0_begin 3 none ∈ gt := gt_of 745 rfl rfl
theorem ins_X0_begin : Cond.instanceMethod yX0_begin ∈ gt := gt_of 744 (by decide +kernel) rfl
theorem sel_X0_begin : Cond.selects (yX0_begin).cls yX0_begin yX0_begin ∈ gt := gt_of 30 (by decide +kernel) rfl
theorem mv_X0_133 : MV RX0 133 yX0_begin cX0_begin 3 none 1 := ⟨Or.inl (gt_of 742 (by decide +kernel) rfl), ins_X0_begin, sel_X0_begin, ini_X0, co_X0_begin, ⟨by decide +kernel, by decide +kernel, by decide +kernel⟩, by decide⟩
set_option maxRecDepth 100000 in
theorem co_X0_waitOn : Cond.code yX0_waitOn cX0_waitOn 4 none ∈ gt := gt_of 749 rfl rfl
theorem ins_X0_waitOn : Cond.instanceMethod yX0_waitOn ∈ gt := gt_of 748 (by decide +kernel) rfl
theorem sel_X0_waitOn : Cond.selects (yX0_waitOn).cls yX0_waitOn yX0_waitOn ∈ gt := gt_of 31 (by decide +kernel) rfl
theorem mv_X0_136 : MV RX0 136 yX0_waitOn cX0_waitOn 4 none 0 := ⟨Or.inl (gt_of 746 (by decide +kernel) rfl), ins_X0_waitOn, sel_X0_waitOn, ini_X0, co_X0_waitOn, ⟨by decide +kernel, by decide +kernel, by decide +kernel⟩, by decide⟩
set_option maxRecDepth 100000 in
theorem co_X0_nextBegins : Cond.code yX0_nextBegins cX0_nextBegins 1 (some .int) ∈ gt := gt_of 741 rfl rfl
theorem ins_X0_nextBegins : Cond.instanceMethod yX0_nextBegins ∈ gt := gt_of 740 (by decide +kernel) rfl
theorem sel_X0_nextBegins : Cond.selects (yX0_nextBegins).cls yX0_nextBegins yX0_nextBegins ∈ gt := gt_of 29 (by decide +kernel) rfl
theorem mv_X0_145 : MV RX0 145 yX0_nextBegins cX0_nextBegins 1 (some .int) 0 := ⟨Or.inl (gt_of 738 (by decide +kernel) rfl), ins_X0_nextBegins, sel_X0_nextBegins, ini_X0, co_X0_nextBegins, ⟨by decide +kernel, by decide +kernel, by decide +kernel⟩, by decide⟩
set_option maxRecDepth 100000 in
theorem co_X0_swap : Cond.code yX0_swap cX0_swap 4 none ∈ gt := gt_of 805 rfl rfl
theorem ins_X0_swap : Cond.instanceMethod yX0_swap ∈ gt := gt_of 804 (by decide +kernel) rfl
theorem sel_X0_swap : Cond.selects (yX0_swap).cls yX0_swap yX0_swap ∈ gt := gt_of 36 (by decide +kernel) rfl
theorem mv_X0_153 : MV RX0 153 yX0_swap cX0_swap 4 none 2 := ⟨Or.inl (gt_of 802 (by decide +kernel) rfl), ins_X0_swap, sel_X0_swap, ini_X0, co_X0_swap, ⟨by decide +kernel, by decide +kernel, by decide +kernel⟩, by decide⟩
theorem ms_X1_9 : MS RX1 9 yJ9_max_7cf53 cJ9_max_7cf53 2 (some .int) 2 := ⟨Or.inl (gt_of 690 (by decide +kernel) rfl), sta_J9_max_7cf53, ini_J9, co_J9_max_7cf53, ⟨by decide +kernel, by decide +kernel, by decide +kernel⟩, by decide⟩
set_option maxRecDepth 100000 in
theorem co_X7_clear : Cond.code yX7_clear cX7_clear 1 none ∈ gt := gt_of 402 rfl rfl
theorem ins_X7_clear : Cond.instanceMethod yX7_clear ∈ gt := gt_of 400 (by decide +kernel) rfl
theorem sel_X7_clear : Cond.selects (yX7_clear).cls yX7_clear yX7_clear ∈ gt := gt_of 401 (by decide +kernel) rfl
theorem mv_X3_29 : MV RX3 29 yX7_clear cX7_clear 1 none 0 := ⟨Or.inl (gt_of 399 (by decide +kernel) rfl), ins_X7_clear, sel_X7_clear, ini_X7, co_X7_clear, ⟨by decide +kernel, by decide +kernel, by decide +kernel⟩, by decide⟩
set_option maxRecDepth 100000 in
theorem co_X6_cut : Cond.code yX6_cut cX6_cut 4 none ∈ gt := gt_of 406 rfl rfl
theorem ins_X6_cut : Cond.instanceMethod yX6_cut ∈ gt := gt_of 404 (by decide +kernel) rfl
theorem sel_X6_cut : Cond.selects (yX6_cut).cls yX6_cut yX6_cut ∈ gt := gt_of 405 (by decide +kernel) rfl
theorem mv_X3_35 : MV RX3 35 yX6_cut cX6_cut 4 none 0 := ⟨Or.inl (gt_of 403 (by decide +kernel) rfl), ins_X6_cut, sel_X6_cut, ini_X6, co_X6_cut, ⟨by decide +kernel, by decide +kernel, by decide +kernel⟩, by decide⟩
set_option maxRecDepth 100000 in
theorem co_X3_expect : Cond.code yX3_expect cX3_expect 2 none ∈ gt := gt_of 509 rfl rfl
theorem ins_X3_expect : Cond.instanceMethod yX3_expect ∈ gt := gt_of 508 (by decide +kernel) rfl
theorem sel_X3_expect : Cond.selects (yX3_expect).cls yX3_expect yX3_expect ∈ gt := gt_of 5 (by decide +kernel) rfl
theorem mv_X3_40 : MV RX3 40 yX3_expect cX3_expect 2 none 1 := ⟨Or.inl (gt_of 506 (by decide +kernel) rfl), ins_X3_expect, sel_X3_expect, ini_X3, co_X3_expect, ⟨by decide +kernel, by decide +kernel, by decide +kernel⟩, by decide⟩
set_option maxRecDepth 100000 in
theorem co_X3_readE : Cond.code yX3_readE cX3_readE 2 none ∈ gt := gt_of 529 rfl rfl
theorem ins_X3_readE : Cond.instanceMethod yX3_readE ∈ gt := gt_of 528 (by decide +kernel) rfl
theorem sel_X3_readE : Cond.selects (yX3_readE).cls yX3_readE yX3_readE ∈ gt := gt_of 10 (by decide +kernel) rfl
theorem mv_X3_44 : MV RX3 44 yX3_readE cX3_readE 2 none 0 := ⟨Or.inl (gt_of 526 (by decide +kernel) rfl), ins_X3_readE, sel_X3_readE, ini_X3, co_X3_readE, ⟨by decide +kernel, by decide +kernel, by decide +kernel⟩, by decide⟩
set_option maxRecDepth 100000 in
theorem co_X7_endPart : Cond.code yX7_endPart cX7_endPart 2 none ∈ gt := gt_of 577 rfl rfl
theorem ins_X7_endPart : Cond.instanceMethod yX7_endPart ∈ gt := gt_of 575 (by decide +kernel) rfl
theorem sel_X7_endPart : Cond.selects (yX7_endPart).cls yX7_endPart yX7_endPart ∈ gt := gt_of 576 (by decide +kernel) rfl
theorem mv_X3_47 : MV RX3 47 yX7_endPart cX7_endPart 2 none 1 := ⟨Or.inl (gt_of 574 (by decide +kernel) rfl), ins_X7_endPart, sel_X7_endPart, ini_X7, co_X7_endPart, ⟨by decide +kernel, by decide +kernel, by decide +kernel⟩, by decide⟩
set_option maxRecDepth 100000 in
theorem co_X3_token : Cond.code yX3_token cX3_token 1 (some .int) ∈ gt := gt_of 517 rfl rfl
theorem ins_X3_token : Cond.instanceMethod yX3_token ∈ gt := gt_of 516 (by decide +kernel) rfl
theorem sel_X3_token : Cond.selects (yX3_token).cls yX3_token yX3_token ∈ gt := gt_of 7 (by decide +kernel) rfl
theorem mv_X3_50 : MV RX3 50 yX3_token cX3_token 1 (some .int) 0 := ⟨Or.inl (gt_of 514 (by decide +kernel) rfl), ins_X3_token, sel_X3_token, ini_X3, co_X3_token, ⟨by decide +kernel, by decide +kernel, by decide +kernel⟩, by decide⟩
set_option maxRecDepth 100000 in
theorem co_X3_is : Cond.code yX3_is cX3_is 2 (some .boolean) ∈ gt := gt_of 513 rfl rfl
theorem ins_X3_is : Cond.instanceMethod yX3_is ∈ gt := gt_of 512 (by decide +kernel) rfl
theorem sel_X3_is : Cond.selects (yX3_is).cls yX3_is yX3_is ∈ gt := gt_of 6 (by decide +kernel) rfl
theorem mv_X3_67 : MV RX3 67 yX3_is cX3_is 2 (some .boolean) 1 := ⟨Or.inl (gt_of 510 (by decide +kernel) rfl), ins_X3_is, sel_X3_is, ini_X3, co_X3_is, ⟨by decide +kernel, by decide +kernel, by decide +kernel⟩, by decide⟩
set_option maxRecDepth 100000 in
theorem co_X3_next : Cond.code yX3_next cX3_next 1 none ∈ gt := gt_of 521 rfl rfl
theorem ins_X3_next : Cond.instanceMethod yX3_next ∈ gt := gt_of 520 (by decide +kernel) rfl
theorem sel_X3_next : Cond.selects (yX3_next).cls yX3_next yX3_next ∈ gt := gt_of 8 (by decide +kernel) rfl
theorem mv_X3_71 : MV RX3 71 yX3_next cX3_next 1 none 0 := ⟨Or.inl (gt_of 518 (by decide +kernel) rfl), ins_X3_next, sel_X3_next, ini_X3, co_X3_next, ⟨by decide +kernel, by decide +kernel, by decide +kernel⟩, by decide⟩
set_option maxRecDepth 100000 in
theorem co_X3_fail : Cond.code yX3_fail cX3_fail 1 none ∈ gt := gt_of 525 rfl rfl
theorem ins_X3_fail : Cond.instanceMethod yX3_fail ∈ gt := gt_of 524 (by decide +kernel) rfl
theorem sel_X3_fail : Cond.selects (yX3_fail).cls yX3_fail yX3_fail ∈ gt := gt_of 9 (by decide +kernel) rfl
theorem mv_X3_74 : MV RX3 74 yX3_fail cX3_fail 1 none 0 := ⟨Or.inl (gt_of 522 (by decide +kernel) rfl), ins_X3_fail, sel_X3_fail, ini_X3, co_X3_fail, ⟨by decide +kernel, by decide +kernel, by decide +kernel⟩, by decide⟩
set_option maxRecDepth 100000 in
theorem co_X3_readAnd : Cond.code yX3_readAnd cX3_readAnd 2 none ∈ gt := gt_of 533 rfl rfl
theorem ins_X3_readAnd : Cond.instanceMethod yX3_readAnd ∈ gt := gt_of 532 (by decide +kernel) rfl
theorem sel_X3_readAnd : Cond.selects (yX3_readAnd).cls yX3_readAnd yX3_readAnd ∈ gt := gt_of 11 (by decide +kernel) rfl
theorem mv_X3_77 : MV RX3 77 yX3_readAnd cX3_readAnd 2 none 0 := ⟨Or.inl (gt_of 530 (by decide +kernel) rfl), ins_X3_readAnd, sel_X3_readAnd, ini_X3, co_X3_readAnd, ⟨by decide +kernel, by decide +kernel, by decide +kernel⟩, by decide⟩
set_option maxRecDepth 100000 in
theorem co_X7_add : Cond.code yX7_add cX7_add 2 none ∈ gt := gt_of 561 rfl rfl
theorem ins_X7_add : Cond.instanceMethod yX7_add ∈ gt := gt_of 559 (by decide +kernel) rfl
theorem sel_X7_add : Cond.selects (yX7_add).cls yX7_add yX7_add ∈ gt := gt_of 560 (by decide +kernel) rfl
theorem mv_X3_80 : MV RX3 80 yX7_add cX7_add 2 none 1 := ⟨Or.inl (gt_of 558 (by decide +kernel) rfl), ins_X7_add, sel_X7_add, ini_X7, co_X7_add, ⟨by decide +kernel, by decide +kernel, by decide +kernel⟩, by decide⟩
set_option maxRecDepth 100000 in
theorem co_X3_readNot : Cond.code yX3_readNot cX3_readNot 1 none ∈ gt := gt_of 537 rfl rfl
theorem ins_X3_readNot : Cond.instanceMethod yX3_readNot ∈ gt := gt_of 536 (by decide +kernel) rfl
theorem sel_X3_readNot : Cond.selects (yX3_readNot).cls yX3_readNot yX3_readNot ∈ gt := gt_of 12 (by decide +kernel) rfl
theorem mv_X3_83 : MV RX3 83 yX3_readNot cX3_readNot 1 none 0 := ⟨Or.inl (gt_of 534 (by decide +kernel) rfl), ins_X3_readNot, sel_X3_readNot, ini_X3, co_X3_readNot, ⟨by decide +kernel, by decide +kernel, by decide +kernel⟩, by decide⟩
set_option maxRecDepth 100000 in
theorem co_X3_readCompared : Cond.code yX3_readCompared cX3_readCompared 2 none ∈ gt := gt_of 541 rfl rfl
theorem ins_X3_readCompared : Cond.instanceMethod yX3_readCompared ∈ gt := gt_of 540 (by decide +kernel) rfl
theorem sel_X3_readCompared : Cond.selects (yX3_readCompared).cls yX3_readCompared yX3_readCompared ∈ gt := gt_of 13 (by decide +kernel) rfl
theorem mv_X3_86 : MV RX3 86 yX3_readCompared cX3_readCompared 2 none 0 := ⟨Or.inl (gt_of 538 (by decide +kernel) rfl), ins_X3_readCompared, sel_X3_readCompared, ini_X3, co_X3_readCompared, ⟨by decide +kernel, by decide +kernel, by decide +kernel⟩, by decide⟩
set_option maxRecDepth 100000 in
theorem co_X3_opens : Cond.code yX3_opens cX3_opens 1 (some .boolean) ∈ gt := gt_of 569 rfl rfl
theorem ins_X3_opens : Cond.instanceMethod yX3_opens ∈ gt := gt_of 568 (by decide +kernel) rfl
theorem sel_X3_opens : Cond.selects (yX3_opens).cls yX3_opens yX3_opens ∈ gt := gt_of 19 (by decide +kernel) rfl
theorem mv_X3_89 : MV RX3 89 yX3_opens cX3_opens 1 (some .boolean) 0 := ⟨Or.inl (gt_of 566 (by decide +kernel) rfl), ins_X3_opens, sel_X3_opens, ini_X3, co_X3_opens, ⟨by decide +kernel, by decide +kernel, by decide +kernel⟩, by decide⟩
set_option maxRecDepth 100000 in
theorem co_X3_readSum : Cond.code yX3_readSum cX3_readSum 3 none ∈ gt := gt_of 545 rfl rfl
theorem ins_X3_readSum : Cond.instanceMethod yX3_readSum ∈ gt := gt_of 544 (by decide +kernel) rfl
theorem sel_X3_readSum : Cond.selects (yX3_readSum).cls yX3_readSum yX3_readSum ∈ gt := gt_of 14 (by decide +kernel) rfl
theorem mv_X3_93 : MV RX3 93 yX3_readSum cX3_readSum 3 none 0 := ⟨Or.inl (gt_of 542 (by decide +kernel) rfl), ins_X3_readSum, sel_X3_readSum, ini_X3, co_X3_readSum, ⟨by decide +kernel, by decide +kernel, by decide +kernel⟩, by decide⟩
set_option maxRecDepth 100000 in
theorem co_X3_readTerm : Cond.code yX3_readTerm cX3_readTerm 2 none ∈ gt := gt_of 549 rfl rfl
theorem ins_X3_readTerm : Cond.instanceMethod yX3_readTerm ∈ gt := gt_of 548 (by decide +kernel) rfl
theorem sel_X3_readTerm : Cond.selects (yX3_readTerm).cls yX3_readTerm yX3_readTerm ∈ gt := gt_of 15 (by decide +kernel) rfl
theorem mv_X3_96 : MV RX3 96 yX3_readTerm cX3_readTerm 2 none 0 := ⟨Or.inl (gt_of 546 (by decide +kernel) rfl), ins_X3_readTerm, sel_X3_readTerm, ini_X3, co_X3_readTerm, ⟨by decide +kernel, by decide +kernel, by decide +kernel⟩, by decide⟩
set_option maxRecDepth 100000 in
theorem co_X3_readOne : Cond.code yX3_readOne cX3_readOne 2 none ∈ gt := gt_of 553 rfl rfl
theorem ins_X3_readOne : Cond.instanceMethod yX3_readOne ∈ gt := gt_of 552 (by decide +kernel) rfl
theorem sel_X3_readOne : Cond.selects (yX3_readOne).cls yX3_readOne yX3_readOne ∈ gt := gt_of 16 (by decide +kernel) rfl
theorem mv_X3_99 : MV RX3 99 yX3_readOne cX3_readOne 2 none 0 := ⟨Or.inl (gt_of 550 (by decide +kernel) rfl), ins_X3_readOne, sel_X3_readOne, ini_X3, co_X3_readOne, ⟨by decide +kernel, by decide +kernel, by decide +kernel⟩, by decide⟩
set_option maxRecDepth 100000 in
theorem co_X3_number : Cond.code yX3_number cX3_number 1 (some .int) ∈ gt := gt_of 557 rfl rfl
theorem ins_X3_number : Cond.instanceMethod yX3_number ∈ gt := gt_of 556 (by decide +kernel) rfl
theorem sel_X3_number : Cond.selects (yX3_number).cls yX3_number yX3_number ∈ gt := gt_of 17 (by decide +kernel) rfl
theorem mv_X3_102 : MV RX3 102 yX3_number cX3_number 1 (some .int) 0 := ⟨Or.inl (gt_of 554 (by decide +kernel) rfl), ins_X3_number, sel_X3_number, ini_X3, co_X3_number, ⟨by decide +kernel, by decide +kernel, by decide +kernel⟩, by decide⟩
set_option maxRecDepth 100000 in
theorem co_X3_readMinus : Cond.code yX3_readMinus cX3_readMinus 1 none ∈ gt := gt_of 565 rfl rfl
theorem ins_X3_readMinus : Cond.instanceMethod yX3_readMinus ∈ gt := gt_of 564 (by decide +kernel) rfl
theorem sel_X3_readMinus : Cond.selects (yX3_readMinus).cls yX3_readMinus yX3_readMinus ∈ gt := gt_of 18 (by decide +kernel) rfl
theorem mv_X3_105 : MV RX3 105 yX3_readMinus cX3_readMinus 1 none 0 := ⟨Or.inl (gt_of 562 (by decide +kernel) rfl), ins_X3_readMinus, sel_X3_readMinus, ini_X3, co_X3_readMinus, ⟨by decide +kernel, by decide +kernel, by decide +kernel⟩, by decide⟩
set_option maxRecDepth 100000 in
theorem co_X3_readBracket : Cond.code yX3_readBracket cX3_readBracket 1 none ∈ gt := gt_of 573 rfl rfl
theorem ins_X3_readBracket : Cond.instanceMethod yX3_readBracket ∈ gt := gt_of 572 (by decide +kernel) rfl
theorem sel_X3_readBracket : Cond.selects (yX3_readBracket).cls yX3_readBracket yX3_readBracket ∈ gt := gt_of 20 (by decide +kernel) rfl
theorem mv_X3_108 : MV RX3 108 yX3_readBracket cX3_readBracket 1 none 0 := ⟨Or.inl (gt_of 570 (by decide +kernel) rfl), ins_X3_readBracket, sel_X3_readBracket, ini_X3, co_X3_readBracket, ⟨by decide +kernel, by decide +kernel, by decide +kernel⟩, by decide⟩
theorem mv_X4_22 : MV RX4 22 yX4_has cX4_has 2 (some .boolean) 1 := ⟨Or.inl (gt_of 889 (by decide +kernel) rfl), ins_X4_has, sel_X4_has, ini_X4, co_X4_has, ⟨by decide +kernel, by decide +kernel, by decide +kernel⟩, by decide⟩
set_option maxRecDepth 100000 in
theorem co_X6_endOf : Cond.code yX6_endOf cX6_endOf 5 (some .int) ∈ gt := gt_of 410 rfl rfl
theorem ins_X6_endOf : Cond.instanceMethod yX6_endOf ∈ gt := gt_of 409 (by decide +kernel) rfl
theorem sel_X6_endOf : Cond.selects (yX6_endOf).cls yX6_endOf yX6_endOf ∈ gt := gt_of 1 (by decide +kernel) rfl
theorem mv_X6_31 : MV RX6 31 yX6_endOf cX6_endOf 5 (some .int) 1 := ⟨Or.inl (gt_of 407 (by decide +kernel) rfl), ins_X6_endOf, sel_X6_endOf, ini_X6, co_X6_endOf, ⟨by decide +kernel, by decide +kernel, by decide +kernel⟩, by decide⟩
set_option maxRecDepth 100000 in
theorem co_X6_tokenOf : Cond.code yX6_tokenOf cX6_tokenOf 5 (some .int) ∈ gt := gt_of 420 rfl rfl
theorem ins_X6_tokenOf : Cond.instanceMethod yX6_tokenOf ∈ gt := gt_of 419 (by decide +kernel) rfl
theorem sel_X6_tokenOf : Cond.selects (yX6_tokenOf).cls yX6_tokenOf yX6_tokenOf ∈ gt := gt_of 2 (by decide +kernel) rfl
theorem mv_X6_35 : MV RX6 35 yX6_tokenOf cX6_tokenOf 5 (some .int) 2 := ⟨Or.inl (gt_of 417 (by decide +kernel) rfl), ins_X6_tokenOf, sel_X6_tokenOf, ini_X6, co_X6_tokenOf, ⟨by decide +kernel, by decide +kernel, by decide +kernel⟩, by decide⟩
set_option maxRecDepth 100000 in
theorem co_X6_numberOf : Cond.code yX6_numberOf cX6_numberOf 5 (some .int) ∈ gt := gt_of 505 rfl rfl
theorem ins_X6_numberOf : Cond.instanceMethod yX6_numberOf ∈ gt := gt_of 504 (by decide +kernel) rfl
theorem sel_X6_numberOf : Cond.selects (yX6_numberOf).cls yX6_numberOf yX6_numberOf ∈ gt := gt_of 4 (by decide +kernel) rfl
theorem mv_X6_39 : MV RX6 39 yX6_numberOf cX6_numberOf 5 (some .int) 2 := ⟨Or.inl (gt_of 502 (by decide +kernel) rfl), ins_X6_numberOf, sel_X6_numberOf, ini_X6, co_X6_numberOf, ⟨by decide +kernel, by decide +kernel, by decide +kernel⟩, by decide⟩
set_option maxRecDepth 100000 in
theorem co_X6_isLetter : Cond.code yX6_isLetter cX6_isLetter 1 (some .boolean) ∈ gt := gt_of 413 rfl rfl
theorem sta_X6_isLetter : Cond.static yX6_isLetter ∈ gt := gt_of 412 (by decide +kernel) rfl
theorem ms_X6_42 : MS RX6 42 yX6_isLetter cX6_isLetter 1 (some .boolean) 1 := ⟨Or.inl (gt_of 411 (by decide +kernel) rfl), sta_X6_isLetter, ini_X6, co_X6_isLetter, ⟨by decide +kernel, by decide +kernel, by decide +kernel⟩, by decide⟩
set_option maxRecDepth 100000 in
theorem co_X6_isDigit : Cond.code yX6_isDigit cX6_isDigit 1 (some .boolean) ∈ gt := gt_of 416 rfl rfl
theorem sta_X6_isDigit : Cond.static yX6_isDigit ∈ gt := gt_of 415 (by decide +kernel) rfl
theorem ms_X6_46 : MS RX6 46 yX6_isDigit cX6_isDigit 1 (some .boolean) 1 := ⟨Or.inl (gt_of 414 (by decide +kernel) rfl), sta_X6_isDigit, ini_X6, co_X6_isDigit, ⟨by decide +kernel, by decide +kernel, by decide +kernel⟩, by decide⟩
set_option maxRecDepth 100000 in
theorem co_J0_indexOf_0f7a4 : Cond.code yJ0_indexOf_0f7a4 cJ0_indexOf_0f7a4 2 (some .int) ∈ gt := gt_of 425 rfl rfl
theorem ins_J0_indexOf_0f7a4 : Cond.instanceMethod yJ0_indexOf_0f7a4 ∈ gt := gt_of 423 (by decide +kernel) rfl
theorem sel_J0_indexOf_0f7a4 : Cond.selects (yJ0_indexOf_0f7a4).cls yJ0_indexOf_0f7a4 yJ0_indexOf_0f7a4 ∈ gt := gt_of 424 (by decide +kernel) rfl
theorem mv_X6_51 : MV RX6 51 yJ0_indexOf_0f7a4 cJ0_indexOf_0f7a4 2 (some .int) 1 := ⟨Or.inl (gt_of 422 (by decide +kernel) rfl), ins_J0_indexOf_0f7a4, sel_J0_indexOf_0f7a4, ini_J0, co_J0_indexOf_0f7a4, ⟨by decide +kernel, by decide +kernel, by decide +kernel⟩, by decide⟩
set_option maxRecDepth 100000 in
theorem co_X6_wordOf : Cond.code yX6_wordOf cX6_wordOf 1 (some (.object "java/lang/String")) ∈ gt := gt_of 483 rfl rfl
theorem sta_X6_wordOf : Cond.static yX6_wordOf ∈ gt := gt_of 482 (by decide +kernel) rfl
theorem ms_X6_56 : MS RX6 56 yX6_wordOf cX6_wordOf 1 (some (.object "java/lang/String")) 1 := ⟨Or.inl (gt_of 481 (by decide +kernel) rfl), sta_X6_wordOf, ini_X6, co_X6_wordOf, ⟨by decide +kernel, by decide +kernel, by decide +kernel⟩, by decide⟩
set_option maxRecDepth 100000 in
theorem co_X6_spells : Cond.code yX6_spells cX6_spells 5 (some .boolean) ∈ gt := gt_of 499 rfl rfl
theorem ins_X6_spells : Cond.instanceMethod yX6_spells ∈ gt := gt_of 498 (by decide +kernel) rfl
theorem sel_X6_spells : Cond.selects (yX6_spells).cls yX6_spells yX6_spells ∈ gt := gt_of 3 (by decide +kernel) rfl
theorem mv_X6_60 : MV RX6 60 yX6_spells cX6_spells 5 (some .boolean) 3 := ⟨Or.inl (gt_of 496 (by decide +kernel) rfl), ins_X6_spells, sel_X6_spells, ini_X6, co_X6_spells, ⟨by decide +kernel, by decide +kernel, by decide +kernel⟩, by decide⟩
theorem mv_X6_64 : MV RX6 64 yJ0_length_8abf5 cJ0_length_8abf5 1 (some .int) 0 := ⟨Or.inl (gt_of 500 (by decide +kernel) rfl), ins_J0_length_8abf5, sel_J0_length_8abf5, ini_J0, co_J0_length_8abf5, ⟨by decide +kernel, by decide +kernel, by decide +kernel⟩, by decide⟩
theorem mv_X6_68 : MV RX6 68 yJ0_charAt_5068e cJ0_charAt_5068e 2 (some .char) 1 := ⟨Or.inl (gt_of 501 (by decide +kernel) rfl), ins_J0_charAt_5068e, sel_J0_charAt_5068e, ini_J0, co_J0_charAt_5068e, ⟨by decide +kernel, by decide +kernel, by decide +kernel⟩, by decide⟩
theorem ms_X7_22 : MS RX7 22 yJ9_max_7cf53 cJ9_max_7cf53 2 (some .int) 2 := ⟨Or.inl (gt_of 677 (by decide +kernel) rfl), sta_J9_max_7cf53, ini_J9, co_J9_max_7cf53, ⟨by decide +kernel, by decide +kernel, by decide +kernel⟩, by decide⟩
set_option maxRecDepth 100000 in
theorem co_X7_joined : Cond.code yX7_joined cX7_joined 3 (some .int) ∈ gt := gt_of 680 rfl rfl
theorem sta_X7_joined : Cond.static yX7_joined ∈ gt := gt_of 679 (by decide +kernel) rfl
theorem ms_X7_28 : MS RX7 28 yX7_joined cX7_joined 3 (some .int) 3 := ⟨Or.inl (gt_of 678 (by decide +kernel) rfl), sta_X7_joined, ini_X7, co_X7_joined, ⟨by decide +kernel, by decide +kernel, by decide +kernel⟩, by decide⟩
set_option maxRecDepth 100000 in
theorem co_X8_set : Cond.code yX8_set cX8_set 8 (some .int) ∈ gt := gt_of 621 rfl rfl
theorem ins_X8_set : Cond.instanceMethod yX8_set ∈ gt := gt_of 619 (by decide +kernel) rfl
theorem sel_X8_set : Cond.selects (yX8_set).cls yX8_set yX8_set ∈ gt := gt_of 620 (by decide +kernel) rfl
theorem mv_L_13 : MV RL 13 yX8_set cX8_set 8 (some .int) 3 := ⟨Or.inl (gt_of 618 (by decide +kernel) rfl), ins_X8_set, sel_X8_set, ini_X8, co_X8_set, ⟨by decide +kernel, by decide +kernel, by decide +kernel⟩, by decide⟩
set_option maxRecDepth 100000 in
theorem co_X9_set : Cond.code yX9_set cX9_set 6 (some .int) ∈ gt := gt_of 1125 rfl rfl
theorem ins_X9_set : Cond.instanceMethod yX9_set ∈ gt := gt_of 1123 (by decide +kernel) rfl
theorem sel_X9_set : Cond.selects (yX9_set).cls yX9_set yX9_set ∈ gt := gt_of 1124 (by decide +kernel) rfl
theorem ini_X9 : Cond.initialized RX9 ∈ gt := gt_of 96 (by decide +kernel) rfl
theorem mv_L_17 : MV RL 17 yX9_set cX9_set 6 (some .int) 3 := ⟨Or.inl (gt_of 1122 (by decide +kernel) rfl), ins_X9_set, sel_X9_set, ini_X9, co_X9_set, ⟨by decide +kernel, by decide +kernel, by decide +kernel⟩, by decide⟩
theorem mv_L_18 : MV RL 18 yX8_wall cX8_wall 4 (some .int) 3 := ⟨Or.inl (gt_of 634 (by decide +kernel) rfl), ins_X8_wall, sel_X8_wall, ini_X8, co_X8_wall, ⟨by decide +kernel, by decide +kernel, by decide +kernel⟩, by decide⟩
set_option maxRecDepth 100000 in
theorem co_X9_wall : Cond.code yX9_wall cX9_wall 4 (some .int) ∈ gt := gt_of 1137 rfl rfl
theorem ins_X9_wall : Cond.instanceMethod yX9_wall ∈ gt := gt_of 1135 (by decide +kernel) rfl
theorem sel_X9_wall : Cond.selects (yX9_wall).cls yX9_wall yX9_wall ∈ gt := gt_of 1136 (by decide +kernel) rfl
theorem mv_L_21 : MV RL 21 yX9_wall cX9_wall 4 (some .int) 3 := ⟨Or.inl (gt_of 1134 (by decide +kernel) rfl), ins_X9_wall, sel_X9_wall, ini_X9, co_X9_wall, ⟨by decide +kernel, by decide +kernel, by decide +kernel⟩, by decide⟩
set_option maxRecDepth 100000 in
theorem co_X8_told : Cond.code yX8_told cX8_told 3 (some .int) ∈ gt := gt_of 648 rfl rfl
theorem ins_X8_told : Cond.instanceMethod yX8_told ∈ gt := gt_of 646 (by decide +kernel) rfl
theorem sel_X8_told : Cond.selects (yX8_told).cls yX8_told yX8_told ∈ gt := gt_of 647 (by decide +kernel) rfl
theorem mv_L_22 : MV RL 22 yX8_told cX8_told 3 (some .int) 2 := ⟨Or.inl (gt_of 645 (by decide +kernel) rfl), ins_X8_told, sel_X8_told, ini_X8, co_X8_told, ⟨by decide +kernel, by decide +kernel, by decide +kernel⟩, by decide⟩
set_option maxRecDepth 100000 in
theorem co_X9_told : Cond.code yX9_told cX9_told 3 (some .int) ∈ gt := gt_of 1144 rfl rfl
theorem ins_X9_told : Cond.instanceMethod yX9_told ∈ gt := gt_of 1142 (by decide +kernel) rfl
theorem sel_X9_told : Cond.selects (yX9_told).cls yX9_told yX9_told ∈ gt := gt_of 1143 (by decide +kernel) rfl
theorem mv_L_26 : MV RL 26 yX9_told cX9_told 3 (some .int) 2 := ⟨Or.inl (gt_of 1141 (by decide +kernel) rfl), ins_X9_told, sel_X9_told, ini_X9, co_X9_told, ⟨by decide +kernel, by decide +kernel, by decide +kernel⟩, by decide⟩
set_option maxRecDepth 100000 in
theorem co_X8_feed : Cond.code yX8_feed cX8_feed 2 (some .int) ∈ gt := gt_of 700 rfl rfl
theorem ins_X8_feed : Cond.instanceMethod yX8_feed ∈ gt := gt_of 698 (by decide +kernel) rfl
theorem sel_X8_feed : Cond.selects (yX8_feed).cls yX8_feed yX8_feed ∈ gt := gt_of 699 (by decide +kernel) rfl
theorem mv_L_27 : MV RL 27 yX8_feed cX8_feed 2 (some .int) 1 := ⟨Or.inl (gt_of 697 (by decide +kernel) rfl), ins_X8_feed, sel_X8_feed, ini_X8, co_X8_feed, ⟨by decide +kernel, by decide +kernel, by decide +kernel⟩, by decide⟩
set_option maxRecDepth 100000 in
theorem co_X9_feed : Cond.code yX9_feed cX9_feed 2 (some .int) ∈ gt := gt_of 1239 rfl rfl
theorem ins_X9_feed : Cond.instanceMethod yX9_feed ∈ gt := gt_of 1237 (by decide +kernel) rfl
theorem sel_X9_feed : Cond.selects (yX9_feed).cls yX9_feed yX9_feed ∈ gt := gt_of 1238 (by decide +kernel) rfl
theorem mv_L_31 : MV RL 31 yX9_feed cX9_feed 2 (some .int) 1 := ⟨Or.inl (gt_of 1236 (by decide +kernel) rfl), ins_X9_feed, sel_X9_feed, ini_X9, co_X9_feed, ⟨by decide +kernel, by decide +kernel, by decide +kernel⟩, by decide⟩
set_option maxRecDepth 100000 in
theorem co_X8_text : Cond.code yX8_text cX8_text 1 (some .int) ∈ gt := gt_of 704 rfl rfl
theorem ins_X8_text : Cond.instanceMethod yX8_text ∈ gt := gt_of 702 (by decide +kernel) rfl
theorem sel_X8_text : Cond.selects (yX8_text).cls yX8_text yX8_text ∈ gt := gt_of 703 (by decide +kernel) rfl
theorem mv_L_32 : MV RL 32 yX8_text cX8_text 1 (some .int) 0 := ⟨Or.inl (gt_of 701 (by decide +kernel) rfl), ins_X8_text, sel_X8_text, ini_X8, co_X8_text, ⟨by decide +kernel, by decide +kernel, by decide +kernel⟩, by decide⟩
set_option maxRecDepth 100000 in
theorem co_X9_text : Cond.code yX9_text cX9_text 2 (some .int) ∈ gt := gt_of 1244 rfl rfl
theorem ins_X9_text : Cond.instanceMethod yX9_text ∈ gt := gt_of 1242 (by decide +kernel) rfl
theorem sel_X9_text : Cond.selects (yX9_text).cls yX9_text yX9_text ∈ gt := gt_of 1243 (by decide +kernel) rfl
theorem mv_L_36 : MV RL 36 yX9_text cX9_text 2 (some .int) 0 := ⟨Or.inl (gt_of 1241 (by decide +kernel) rfl), ins_X9_text, sel_X9_text, ini_X9, co_X9_text, ⟨by decide +kernel, by decide +kernel, by decide +kernel⟩, by decide⟩
set_option maxRecDepth 100000 in
theorem co_X8_force : Cond.code yX8_force cX8_force 3 (some .int) ∈ gt := gt_of 708 rfl rfl
theorem ins_X8_force : Cond.instanceMethod yX8_force ∈ gt := gt_of 706 (by decide +kernel) rfl
theorem sel_X8_force : Cond.selects (yX8_force).cls yX8_force yX8_force ∈ gt := gt_of 707 (by decide +kernel) rfl
theorem mv_L_37 : MV RL 37 yX8_force cX8_force 3 (some .int) 1 := ⟨Or.inl (gt_of 705 (by decide +kernel) rfl), ins_X8_force, sel_X8_force, ini_X8, co_X8_force, ⟨by decide +kernel, by decide +kernel, by decide +kernel⟩, by decide⟩
set_option maxRecDepth 100000 in
theorem co_X9_force : Cond.code yX9_force cX9_force 3 (some .int) ∈ gt := gt_of 1248 rfl rfl
theorem ins_X9_force : Cond.instanceMethod yX9_force ∈ gt := gt_of 1246 (by decide +kernel) rfl
theorem sel_X9_force : Cond.selects (yX9_force).cls yX9_force yX9_force ∈ gt := gt_of 1247 (by decide +kernel) rfl
theorem mv_L_40 : MV RL 40 yX9_force cX9_force 3 (some .int) 1 := ⟨Or.inl (gt_of 1245 (by decide +kernel) rfl), ins_X9_force, sel_X9_force, ini_X9, co_X9_force, ⟨by decide +kernel, by decide +kernel, by decide +kernel⟩, by decide⟩
set_option maxRecDepth 100000 in
theorem co_X8_day : Cond.code yX8_day cX8_day 2 (some .int) ∈ gt := gt_of 712 rfl rfl
theorem ins_X8_day : Cond.instanceMethod yX8_day ∈ gt := gt_of 710 (by decide +kernel) rfl
theorem sel_X8_day : Cond.selects (yX8_day).cls yX8_day yX8_day ∈ gt := gt_of 711 (by decide +kernel) rfl
theorem mv_L_41 : MV RL 41 yX8_day cX8_day 2 (some .int) 1 := ⟨Or.inl (gt_of 709 (by decide +kernel) rfl), ins_X8_day, sel_X8_day, ini_X8, co_X8_day, ⟨by decide +kernel, by decide +kernel, by decide +kernel⟩, by decide⟩
set_option maxRecDepth 100000 in
theorem co_X9_day : Cond.code yX9_day cX9_day 2 (some .int) ∈ gt := gt_of 1252 rfl rfl
theorem ins_X9_day : Cond.instanceMethod yX9_day ∈ gt := gt_of 1250 (by decide +kernel) rfl
theorem sel_X9_day : Cond.selects (yX9_day).cls yX9_day yX9_day ∈ gt := gt_of 1251 (by decide +kernel) rfl
theorem mv_L_44 : MV RL 44 yX9_day cX9_day 2 (some .int) 1 := ⟨Or.inl (gt_of 1249 (by decide +kernel) rfl), ins_X9_day, sel_X9_day, ini_X9, co_X9_day, ⟨by decide +kernel, by decide +kernel, by decide +kernel⟩, by decide⟩
set_option maxRecDepth 100000 in
theorem co_X8_order : Cond.code yX8_order cX8_order 4 (some .int) ∈ gt := gt_of 769 rfl rfl
theorem ins_X8_order : Cond.instanceMethod yX8_order ∈ gt := gt_of 767 (by decide +kernel) rfl
theorem sel_X8_order : Cond.selects (yX8_order).cls yX8_order yX8_order ∈ gt := gt_of 768 (by decide +kernel) rfl
theorem mv_L_45 : MV RL 45 yX8_order cX8_order 4 (some .int) 2 := ⟨Or.inl (gt_of 766 (by decide +kernel) rfl), ins_X8_order, sel_X8_order, ini_X8, co_X8_order, ⟨by decide +kernel, by decide +kernel, by decide +kernel⟩, by decide⟩
set_option maxRecDepth 100000 in
theorem co_X9_order : Cond.code yX9_order cX9_order 3 (some .int) ∈ gt := gt_of 1295 rfl rfl
theorem ins_X9_order : Cond.instanceMethod yX9_order ∈ gt := gt_of 1293 (by decide +kernel) rfl
theorem sel_X9_order : Cond.selects (yX9_order).cls yX9_order yX9_order ∈ gt := gt_of 1294 (by decide +kernel) rfl
theorem mv_L_48 : MV RL 48 yX9_order cX9_order 3 (some .int) 2 := ⟨Or.inl (gt_of 1292 (by decide +kernel) rfl), ins_X9_order, sel_X9_order, ini_X9, co_X9_order, ⟨by decide +kernel, by decide +kernel, by decide +kernel⟩, by decide⟩
set_option maxRecDepth 100000 in
theorem co_X8_best : Cond.code yX8_best cX8_best 4 (some .int) ∈ gt := gt_of 785 rfl rfl
theorem ins_X8_best : Cond.instanceMethod yX8_best ∈ gt := gt_of 783 (by decide +kernel) rfl
theorem sel_X8_best : Cond.selects (yX8_best).cls yX8_best yX8_best ∈ gt := gt_of 784 (by decide +kernel) rfl
theorem mv_L_49 : MV RL 49 yX8_best cX8_best 4 (some .int) 1 := ⟨Or.inl (gt_of 782 (by decide +kernel) rfl), ins_X8_best, sel_X8_best, ini_X8, co_X8_best, ⟨by decide +kernel, by decide +kernel, by decide +kernel⟩, by decide⟩
set_option maxRecDepth 100000 in
theorem co_X9_best : Cond.code yX9_best cX9_best 2 (some .int) ∈ gt := gt_of 1307 rfl rfl
theorem ins_X9_best : Cond.instanceMethod yX9_best ∈ gt := gt_of 1305 (by decide +kernel) rfl
theorem sel_X9_best : Cond.selects (yX9_best).cls yX9_best yX9_best ∈ gt := gt_of 1306 (by decide +kernel) rfl
theorem mv_L_52 : MV RL 52 yX9_best cX9_best 2 (some .int) 1 := ⟨Or.inl (gt_of 1304 (by decide +kernel) rfl), ins_X9_best, sel_X9_best, ini_X9, co_X9_best, ⟨by decide +kernel, by decide +kernel, by decide +kernel⟩, by decide⟩
set_option maxRecDepth 100000 in
theorem co_X8_good : Cond.code yX8_good cX8_good 5 (some .int) ∈ gt := gt_of 809 rfl rfl
theorem ins_X8_good : Cond.instanceMethod yX8_good ∈ gt := gt_of 807 (by decide +kernel) rfl
theorem sel_X8_good : Cond.selects (yX8_good).cls yX8_good yX8_good ∈ gt := gt_of 808 (by decide +kernel) rfl
theorem mv_L_53 : MV RL 53 yX8_good cX8_good 5 (some .int) 2 := ⟨Or.inl (gt_of 806 (by decide +kernel) rfl), ins_X8_good, sel_X8_good, ini_X8, co_X8_good, ⟨by decide +kernel, by decide +kernel, by decide +kernel⟩, by decide⟩
set_option maxRecDepth 100000 in
theorem co_X9_good : Cond.code yX9_good cX9_good 8 (some .int) ∈ gt := gt_of 1316 rfl rfl
theorem ins_X9_good : Cond.instanceMethod yX9_good ∈ gt := gt_of 1314 (by decide +kernel) rfl
theorem sel_X9_good : Cond.selects (yX9_good).cls yX9_good yX9_good ∈ gt := gt_of 1315 (by decide +kernel) rfl
theorem mv_L_56 : MV RL 56 yX9_good cX9_good 8 (some .int) 2 := ⟨Or.inl (gt_of 1313 (by decide +kernel) rfl), ins_X9_good, sel_X9_good, ini_X9, co_X9_good, ⟨by decide +kernel, by decide +kernel, by decide +kernel⟩, by decide⟩
set_option maxRecDepth 100000 in
theorem co_X8_wetting : Cond.code yX8_wetting cX8_wetting 4 (some .int) ∈ gt := gt_of 821 rfl rfl
theorem ins_X8_wetting : Cond.instanceMethod yX8_wetting ∈ gt := gt_of 819 (by decide +kernel) rfl
theorem sel_X8_wetting : Cond.selects (yX8_wetting).cls yX8_wetting yX8_wetting ∈ gt := gt_of 820 (by decide +kernel) rfl
theorem mv_L_57 : MV RL 57 yX8_wetting cX8_wetting 4 (some .int) 2 := ⟨Or.inl (gt_of 818 (by decide +kernel) rfl), ins_X8_wetting, sel_X8_wetting, ini_X8, co_X8_wetting, ⟨by decide +kernel, by decide +kernel, by decide +kernel⟩, by decide⟩
set_option maxRecDepth 100000 in
theorem co_X9_wetting : Cond.code yX9_wetting cX9_wetting 8 (some .int) ∈ gt := gt_of 1320 rfl rfl
theorem ins_X9_wetting : Cond.instanceMethod yX9_wetting ∈ gt := gt_of 1318 (by decide +kernel) rfl
theorem sel_X9_wetting : Cond.selects (yX9_wetting).cls yX9_wetting yX9_wetting ∈ gt := gt_of 1319 (by decide +kernel) rfl
theorem mv_L_60 : MV RL 60 yX9_wetting cX9_wetting 8 (some .int) 2 := ⟨Or.inl (gt_of 1317 (by decide +kernel) rfl), ins_X9_wetting, sel_X9_wetting, ini_X9, co_X9_wetting, ⟨by decide +kernel, by decide +kernel, by decide +kernel⟩, by decide⟩
set_option maxRecDepth 100000 in
theorem co_X8_alone : Cond.code yX8_alone cX8_alone 2 (some .int) ∈ gt := gt_of 835 rfl rfl
theorem ins_X8_alone : Cond.instanceMethod yX8_alone ∈ gt := gt_of 833 (by decide +kernel) rfl
theorem sel_X8_alone : Cond.selects (yX8_alone).cls yX8_alone yX8_alone ∈ gt := gt_of 834 (by decide +kernel) rfl
theorem mv_L_61 : MV RL 61 yX8_alone cX8_alone 2 (some .int) 0 := ⟨Or.inl (gt_of 832 (by decide +kernel) rfl), ins_X8_alone, sel_X8_alone, ini_X8, co_X8_alone, ⟨by decide +kernel, by decide +kernel, by decide +kernel⟩, by decide⟩
set_option maxRecDepth 100000 in
theorem co_X9_alone : Cond.code yX9_alone cX9_alone 3 (some .int) ∈ gt := gt_of 1332 rfl rfl
theorem ins_X9_alone : Cond.instanceMethod yX9_alone ∈ gt := gt_of 1330 (by decide +kernel) rfl
theorem sel_X9_alone : Cond.selects (yX9_alone).cls yX9_alone yX9_alone ∈ gt := gt_of 1331 (by decide +kernel) rfl
theorem mv_L_64 : MV RL 64 yX9_alone cX9_alone 3 (some .int) 0 := ⟨Or.inl (gt_of 1329 (by decide +kernel) rfl), ins_X9_alone, sel_X9_alone, ini_X9, co_X9_alone, ⟨by decide +kernel, by decide +kernel, by decide +kernel⟩, by decide⟩
set_option maxRecDepth 100000 in
theorem co_X8_tooWarm : Cond.code yX8_tooWarm cX8_tooWarm 3 (some .int) ∈ gt := gt_of 839 rfl rfl
theorem ins_X8_tooWarm : Cond.instanceMethod yX8_tooWarm ∈ gt := gt_of 837 (by decide +kernel) rfl
theorem sel_X8_tooWarm : Cond.selects (yX8_tooWarm).cls yX8_tooWarm yX8_tooWarm ∈ gt := gt_of 838 (by decide +kernel) rfl
theorem mv_L_65 : MV RL 65 yX8_tooWarm cX8_tooWarm 3 (some .int) 0 := ⟨Or.inl (gt_of 836 (by decide +kernel) rfl), ins_X8_tooWarm, sel_X8_tooWarm, ini_X8, co_X8_tooWarm, ⟨by decide +kernel, by decide +kernel, by decide +kernel⟩, by decide⟩
set_option maxRecDepth 100000 in
theorem co_X9_tooWarm : Cond.code yX9_tooWarm cX9_tooWarm 3 (some .int) ∈ gt := gt_of 1336 rfl rfl
theorem ins_X9_tooWarm : Cond.instanceMethod yX9_tooWarm ∈ gt := gt_of 1334 (by decide +kernel) rfl
theorem sel_X9_tooWarm : Cond.selects (yX9_tooWarm).cls yX9_tooWarm yX9_tooWarm ∈ gt := gt_of 1335 (by decide +kernel) rfl
theorem mv_L_68 : MV RL 68 yX9_tooWarm cX9_tooWarm 3 (some .int) 0 := ⟨Or.inl (gt_of 1333 (by decide +kernel) rfl), ins_X9_tooWarm, sel_X9_tooWarm, ini_X9, co_X9_tooWarm, ⟨by decide +kernel, by decide +kernel, by decide +kernel⟩, by decide⟩
set_option maxRecDepth 100000 in
theorem co_X8_gains : Cond.code yX8_gains cX8_gains 4 (some .int) ∈ gt := gt_of 843 rfl rfl
theorem ins_X8_gains : Cond.instanceMethod yX8_gains ∈ gt := gt_of 841 (by decide +kernel) rfl
theorem sel_X8_gains : Cond.selects (yX8_gains).cls yX8_gains yX8_gains ∈ gt := gt_of 842 (by decide +kernel) rfl
theorem mv_L_69 : MV RL 69 yX8_gains cX8_gains 4 (some .int) 1 := ⟨Or.inl (gt_of 840 (by decide +kernel) rfl), ins_X8_gains, sel_X8_gains, ini_X8, co_X8_gains, ⟨by decide +kernel, by decide +kernel, by decide +kernel⟩, by decide⟩
set_option maxRecDepth 100000 in
theorem co_X9_gains : Cond.code yX9_gains cX9_gains 3 (some .int) ∈ gt := gt_of 1344 rfl rfl
theorem ins_X9_gains : Cond.instanceMethod yX9_gains ∈ gt := gt_of 1342 (by decide +kernel) rfl
theorem sel_X9_gains : Cond.selects (yX9_gains).cls yX9_gains yX9_gains ∈ gt := gt_of 1343 (by decide +kernel) rfl
theorem mv_L_72 : MV RL 72 yX9_gains cX9_gains 3 (some .int) 1 := ⟨Or.inl (gt_of 1341 (by decide +kernel) rfl), ins_X9_gains, sel_X9_gains, ini_X9, co_X9_gains, ⟨by decide +kernel, by decide +kernel, by decide +kernel⟩, by decide⟩
set_option maxRecDepth 100000 in
theorem co_X8_buckets : Cond.code yX8_buckets cX8_buckets 11 (some .int) ∈ gt := gt_of 847 rfl rfl
theorem ins_X8_buckets : Cond.instanceMethod yX8_buckets ∈ gt := gt_of 845 (by decide +kernel) rfl
theorem sel_X8_buckets : Cond.selects (yX8_buckets).cls yX8_buckets yX8_buckets ∈ gt := gt_of 846 (by decide +kernel) rfl
theorem mv_L_73 : MV RL 73 yX8_buckets cX8_buckets 11 (some .int) 2 := ⟨Or.inl (gt_of 844 (by decide +kernel) rfl), ins_X8_buckets, sel_X8_buckets, ini_X8, co_X8_buckets, ⟨by decide +kernel, by decide +kernel, by decide +kernel⟩, by decide⟩
set_option maxRecDepth 100000 in
theorem co_X9_buckets : Cond.code yX9_buckets cX9_buckets 9 (some .int) ∈ gt := gt_of 1348 rfl rfl
theorem ins_X9_buckets : Cond.instanceMethod yX9_buckets ∈ gt := gt_of 1346 (by decide +kernel) rfl
theorem sel_X9_buckets : Cond.selects (yX9_buckets).cls yX9_buckets yX9_buckets ∈ gt := gt_of 1347 (by decide +kernel) rfl
theorem mv_L_76 : MV RL 76 yX9_buckets cX9_buckets 9 (some .int) 2 := ⟨Or.inl (gt_of 1345 (by decide +kernel) rfl), ins_X9_buckets, sel_X9_buckets, ini_X9, co_X9_buckets, ⟨by decide +kernel, by decide +kernel, by decide +kernel⟩, by decide⟩
set_option maxRecDepth 100000 in
theorem co_X8_books : Cond.code yX8_books cX8_books 4 (some .int) ∈ gt := gt_of 851 rfl rfl
theorem ins_X8_books : Cond.instanceMethod yX8_books ∈ gt := gt_of 849 (by decide +kernel) rfl
theorem sel_X8_books : Cond.selects (yX8_books).cls yX8_books yX8_books ∈ gt := gt_of 850 (by decide +kernel) rfl
theorem mv_L_77 : MV RL 77 yX8_books cX8_books 4 (some .int) 2 := ⟨Or.inl (gt_of 848 (by decide +kernel) rfl), ins_X8_books, sel_X8_books, ini_X8, co_X8_books, ⟨by decide +kernel, by decide +kernel, by decide +kernel⟩, by decide⟩
set_option maxRecDepth 100000 in
theorem co_X9_books : Cond.code yX9_books cX9_books 7 (some .int) ∈ gt := gt_of 1353 rfl rfl
theorem ins_X9_books : Cond.instanceMethod yX9_books ∈ gt := gt_of 1351 (by decide +kernel) rfl
theorem sel_X9_books : Cond.selects (yX9_books).cls yX9_books yX9_books ∈ gt := gt_of 1352 (by decide +kernel) rfl
theorem mv_L_80 : MV RL 80 yX9_books cX9_books 7 (some .int) 2 := ⟨Or.inl (gt_of 1350 (by decide +kernel) rfl), ins_X9_books, sel_X9_books, ini_X9, co_X9_books, ⟨by decide +kernel, by decide +kernel, by decide +kernel⟩, by decide⟩
set_option maxRecDepth 100000 in
theorem co_X8_warms : Cond.code yX8_warms cX8_warms 3 (some .long) ∈ gt := gt_of 875 rfl rfl
theorem ins_X8_warms : Cond.instanceMethod yX8_warms ∈ gt := gt_of 873 (by decide +kernel) rfl
theorem sel_X8_warms : Cond.selects (yX8_warms).cls yX8_warms yX8_warms ∈ gt := gt_of 874 (by decide +kernel) rfl
theorem mv_L_81 : MV RL 81 yX8_warms cX8_warms 3 (some .long) 1 := ⟨Or.inl (gt_of 872 (by decide +kernel) rfl), ins_X8_warms, sel_X8_warms, ini_X8, co_X8_warms, ⟨by decide +kernel, by decide +kernel, by decide +kernel⟩, by decide⟩
set_option maxRecDepth 100000 in
theorem co_X9_warms : Cond.code yX9_warms cX9_warms 6 (some .long) ∈ gt := gt_of 1370 rfl rfl
theorem ins_X9_warms : Cond.instanceMethod yX9_warms ∈ gt := gt_of 1368 (by decide +kernel) rfl
theorem sel_X9_warms : Cond.selects (yX9_warms).cls yX9_warms yX9_warms ∈ gt := gt_of 1369 (by decide +kernel) rfl
theorem mv_L_85 : MV RL 85 yX9_warms cX9_warms 6 (some .long) 1 := ⟨Or.inl (gt_of 1367 (by decide +kernel) rfl), ins_X9_warms, sel_X9_warms, ini_X9, co_X9_warms, ⟨by decide +kernel, by decide +kernel, by decide +kernel⟩, by decide⟩
set_option maxRecDepth 100000 in
theorem co_X8_film : Cond.code yX8_film cX8_film 4 (some .int) ∈ gt := gt_of 880 rfl rfl
theorem ins_X8_film : Cond.instanceMethod yX8_film ∈ gt := gt_of 878 (by decide +kernel) rfl
theorem sel_X8_film : Cond.selects (yX8_film).cls yX8_film yX8_film ∈ gt := gt_of 879 (by decide +kernel) rfl
theorem mv_L_86 : MV RL 86 yX8_film cX8_film 4 (some .int) 1 := ⟨Or.inl (gt_of 877 (by decide +kernel) rfl), ins_X8_film, sel_X8_film, ini_X8, co_X8_film, ⟨by decide +kernel, by decide +kernel, by decide +kernel⟩, by decide⟩
set_option maxRecDepth 100000 in
theorem co_X9_film : Cond.code yX9_film cX9_film 3 (some .int) ∈ gt := gt_of 1375 rfl rfl
theorem ins_X9_film : Cond.instanceMethod yX9_film ∈ gt := gt_of 1373 (by decide +kernel) rfl
theorem sel_X9_film : Cond.selects (yX9_film).cls yX9_film yX9_film ∈ gt := gt_of 1374 (by decide +kernel) rfl
theorem mv_L_89 : MV RL 89 yX9_film cX9_film 3 (some .int) 1 := ⟨Or.inl (gt_of 1372 (by decide +kernel) rfl), ins_X9_film, sel_X9_film, ini_X9, co_X9_film, ⟨by decide +kernel, by decide +kernel, by decide +kernel⟩, by decide⟩
set_option maxRecDepth 100000 in
theorem co_X8_drawn : Cond.code yX8_drawn cX8_drawn 2 (some .int) ∈ gt := gt_of 896 rfl rfl
theorem ins_X8_drawn : Cond.instanceMethod yX8_drawn ∈ gt := gt_of 894 (by decide +kernel) rfl
theorem sel_X8_drawn : Cond.selects (yX8_drawn).cls yX8_drawn yX8_drawn ∈ gt := gt_of 895 (by decide +kernel) rfl
theorem mv_L_90 : MV RL 90 yX8_drawn cX8_drawn 2 (some .int) 1 := ⟨Or.inl (gt_of 893 (by decide +kernel) rfl), ins_X8_drawn, sel_X8_drawn, ini_X8, co_X8_drawn, ⟨by decide +kernel, by decide +kernel, by decide +kernel⟩, by decide⟩
set_option maxRecDepth 100000 in
theorem co_X9_drawn : Cond.code yX9_drawn cX9_drawn 2 (some .int) ∈ gt := gt_of 1384 rfl rfl
theorem ins_X9_drawn : Cond.instanceMethod yX9_drawn ∈ gt := gt_of 1382 (by decide +kernel) rfl
theorem sel_X9_drawn : Cond.selects (yX9_drawn).cls yX9_drawn yX9_drawn ∈ gt := gt_of 1383 (by decide +kernel) rfl
theorem mv_L_93 : MV RL 93 yX9_drawn cX9_drawn 2 (some .int) 1 := ⟨Or.inl (gt_of 1381 (by decide +kernel) rfl), ins_X9_drawn, sel_X9_drawn, ini_X9, co_X9_drawn, ⟨by decide +kernel, by decide +kernel, by decide +kernel⟩, by decide⟩
set_option maxRecDepth 100000 in
theorem co_X8_chance : Cond.code yX8_chance cX8_chance 6 (some .long) ∈ gt := gt_of 904 rfl rfl
theorem ins_X8_chance : Cond.instanceMethod yX8_chance ∈ gt := gt_of 902 (by decide +kernel) rfl
theorem sel_X8_chance : Cond.selects (yX8_chance).cls yX8_chance yX8_chance ∈ gt := gt_of 903 (by decide +kernel) rfl
theorem mv_L_94 : MV RL 94 yX8_chance cX8_chance 6 (some .long) 3 := ⟨Or.inl (gt_of 901 (by decide +kernel) rfl), ins_X8_chance, sel_X8_chance, ini_X8, co_X8_chance, ⟨by decide +kernel, by decide +kernel, by decide +kernel⟩, by decide⟩
set_option maxRecDepth 100000 in
theorem co_X9_chance : Cond.code yX9_chance cX9_chance 12 (some .long) ∈ gt := gt_of 1393 rfl rfl
theorem ins_X9_chance : Cond.instanceMethod yX9_chance ∈ gt := gt_of 1391 (by decide +kernel) rfl
theorem sel_X9_chance : Cond.selects (yX9_chance).cls yX9_chance yX9_chance ∈ gt := gt_of 1392 (by decide +kernel) rfl
theorem mv_L_98 : MV RL 98 yX9_chance cX9_chance 12 (some .long) 3 := ⟨Or.inl (gt_of 1390 (by decide +kernel) rfl), ins_X9_chance, sel_X9_chance, ini_X9, co_X9_chance, ⟨by decide +kernel, by decide +kernel, by decide +kernel⟩, by decide⟩
set_option maxRecDepth 100000 in
theorem co_X8_image : Cond.code yX8_image cX8_image 1 (some .int) ∈ gt := gt_of 911 rfl rfl
theorem ins_X8_image : Cond.instanceMethod yX8_image ∈ gt := gt_of 909 (by decide +kernel) rfl
theorem sel_X8_image : Cond.selects (yX8_image).cls yX8_image yX8_image ∈ gt := gt_of 910 (by decide +kernel) rfl
theorem mv_L_99 : MV RL 99 yX8_image cX8_image 1 (some .int) 0 := ⟨Or.inl (gt_of 908 (by decide +kernel) rfl), ins_X8_image, sel_X8_image, ini_X8, co_X8_image, ⟨by decide +kernel, by decide +kernel, by decide +kernel⟩, by decide⟩
set_option maxRecDepth 100000 in
theorem co_X9_image : Cond.code yX9_image cX9_image 2 (some .int) ∈ gt := gt_of 1397 rfl rfl
theorem ins_X9_image : Cond.instanceMethod yX9_image ∈ gt := gt_of 1395 (by decide +kernel) rfl
theorem sel_X9_image : Cond.selects (yX9_image).cls yX9_image yX9_image ∈ gt := gt_of 1396 (by decide +kernel) rfl
theorem mv_L_102 : MV RL 102 yX9_image cX9_image 2 (some .int) 0 := ⟨Or.inl (gt_of 1394 (by decide +kernel) rfl), ins_X9_image, sel_X9_image, ini_X9, co_X9_image, ⟨by decide +kernel, by decide +kernel, by decide +kernel⟩, by decide⟩
set_option maxRecDepth 100000 in
theorem co_X8_back : Cond.code yX8_back cX8_back 1 (some .int) ∈ gt := gt_of 915 rfl rfl
theorem ins_X8_back : Cond.instanceMethod yX8_back ∈ gt := gt_of 913 (by decide +kernel) rfl
theorem sel_X8_back : Cond.selects (yX8_back).cls yX8_back yX8_back ∈ gt := gt_of 914 (by decide +kernel) rfl
theorem mv_L_103 : MV RL 103 yX8_back cX8_back 1 (some .int) 0 := ⟨Or.inl (gt_of 912 (by decide +kernel) rfl), ins_X8_back, sel_X8_back, ini_X8, co_X8_back, ⟨by decide +kernel, by decide +kernel, by decide +kernel⟩, by decide⟩
set_option maxRecDepth 100000 in
theorem co_X9_back : Cond.code yX9_back cX9_back 2 (some .int) ∈ gt := gt_of 1401 rfl rfl
theorem ins_X9_back : Cond.instanceMethod yX9_back ∈ gt := gt_of 1399 (by decide +kernel) rfl
theorem sel_X9_back : Cond.selects (yX9_back).cls yX9_back yX9_back ∈ gt := gt_of 1400 (by decide +kernel) rfl
theorem mv_L_106 : MV RL 106 yX9_back cX9_back 2 (some .int) 0 := ⟨Or.inl (gt_of 1398 (by decide +kernel) rfl), ins_X9_back, sel_X9_back, ini_X9, co_X9_back, ⟨by decide +kernel, by decide +kernel, by decide +kernel⟩, by decide⟩
set_option maxRecDepth 100000 in
theorem co_X8_count : Cond.code yX8_count cX8_count 2 (some .int) ∈ gt := gt_of 919 rfl rfl
theorem ins_X8_count : Cond.instanceMethod yX8_count ∈ gt := gt_of 917 (by decide +kernel) rfl
theorem sel_X8_count : Cond.selects (yX8_count).cls yX8_count yX8_count ∈ gt := gt_of 918 (by decide +kernel) rfl
theorem mv_L_107 : MV RL 107 yX8_count cX8_count 2 (some .int) 1 := ⟨Or.inl (gt_of 916 (by decide +kernel) rfl), ins_X8_count, sel_X8_count, ini_X8, co_X8_count, ⟨by decide +kernel, by decide +kernel, by decide +kernel⟩, by decide⟩
set_option maxRecDepth 100000 in
theorem co_X9_count : Cond.code yX9_count cX9_count 2 (some .int) ∈ gt := gt_of 1405 rfl rfl
theorem ins_X9_count : Cond.instanceMethod yX9_count ∈ gt := gt_of 1403 (by decide +kernel) rfl
theorem sel_X9_count : Cond.selects (yX9_count).cls yX9_count yX9_count ∈ gt := gt_of 1404 (by decide +kernel) rfl
theorem mv_L_110 : MV RL 110 yX9_count cX9_count 2 (some .int) 1 := ⟨Or.inl (gt_of 1402 (by decide +kernel) rfl), ins_X9_count, sel_X9_count, ini_X9, co_X9_count, ⟨by decide +kernel, by decide +kernel, by decide +kernel⟩, by decide⟩
set_option maxRecDepth 100000 in
theorem co_X8_sheet : Cond.code yX8_sheet cX8_sheet 5 (some .int) ∈ gt := gt_of 923 rfl rfl
theorem ins_X8_sheet : Cond.instanceMethod yX8_sheet ∈ gt := gt_of 921 (by decide +kernel) rfl
theorem sel_X8_sheet : Cond.selects (yX8_sheet).cls yX8_sheet yX8_sheet ∈ gt := gt_of 922 (by decide +kernel) rfl
theorem mv_L_111 : MV RL 111 yX8_sheet cX8_sheet 5 (some .int) 3 := ⟨Or.inl (gt_of 920 (by decide +kernel) rfl), ins_X8_sheet, sel_X8_sheet, ini_X8, co_X8_sheet, ⟨by decide +kernel, by decide +kernel, by decide +kernel⟩, by decide⟩
set_option maxRecDepth 100000 in
theorem co_X9_sheet : Cond.code yX9_sheet cX9_sheet 5 (some .int) ∈ gt := gt_of 1379 rfl rfl
theorem ins_X9_sheet : Cond.instanceMethod yX9_sheet ∈ gt := gt_of 1377 (by decide +kernel) rfl
theorem sel_X9_sheet : Cond.selects (yX9_sheet).cls yX9_sheet yX9_sheet ∈ gt := gt_of 1378 (by decide +kernel) rfl
theorem mv_L_114 : MV RL 114 yX9_sheet cX9_sheet 5 (some .int) 3 := ⟨Or.inl (gt_of 1406 (by decide +kernel) rfl), ins_X9_sheet, sel_X9_sheet, ini_X9, co_X9_sheet, ⟨by decide +kernel, by decide +kernel, by decide +kernel⟩, by decide⟩
set_option maxRecDepth 100000 in
theorem co_X8_cell : Cond.code yX8_cell cX8_cell 5 (some .int) ∈ gt := gt_of 927 rfl rfl
theorem ins_X8_cell : Cond.instanceMethod yX8_cell ∈ gt := gt_of 925 (by decide +kernel) rfl
theorem sel_X8_cell : Cond.selects (yX8_cell).cls yX8_cell yX8_cell ∈ gt := gt_of 926 (by decide +kernel) rfl
theorem mv_L_115 : MV RL 115 yX8_cell cX8_cell 5 (some .int) 3 := ⟨Or.inl (gt_of 924 (by decide +kernel) rfl), ins_X8_cell, sel_X8_cell, ini_X8, co_X8_cell, ⟨by decide +kernel, by decide +kernel, by decide +kernel⟩, by decide⟩
set_option maxRecDepth 100000 in
theorem co_X9_cell : Cond.code yX9_cell cX9_cell 4 (some .int) ∈ gt := gt_of 1410 rfl rfl
theorem ins_X9_cell : Cond.instanceMethod yX9_cell ∈ gt := gt_of 1408 (by decide +kernel) rfl
theorem sel_X9_cell : Cond.selects (yX9_cell).cls yX9_cell yX9_cell ∈ gt := gt_of 1409 (by decide +kernel) rfl
theorem mv_L_118 : MV RL 118 yX9_cell cX9_cell 4 (some .int) 3 := ⟨Or.inl (gt_of 1407 (by decide +kernel) rfl), ins_X9_cell, sel_X9_cell, ini_X9, co_X9_cell, ⟨by decide +kernel, by decide +kernel, by decide +kernel⟩, by decide⟩
set_option maxRecDepth 100000 in
theorem co_X8_copy : Cond.code yX8_copy cX8_copy 8 (some .int) ∈ gt := gt_of 932 rfl rfl
theorem ins_X8_copy : Cond.instanceMethod yX8_copy ∈ gt := gt_of 930 (by decide +kernel) rfl
theorem sel_X8_copy : Cond.selects (yX8_copy).cls yX8_copy yX8_copy ∈ gt := gt_of 931 (by decide +kernel) rfl
theorem mv_L_119 : MV RL 119 yX8_copy cX8_copy 8 (some .int) 5 := ⟨Or.inl (gt_of 929 (by decide +kernel) rfl), ins_X8_copy, sel_X8_copy, ini_X8, co_X8_copy, ⟨by decide +kernel, by decide +kernel, by decide +kernel⟩, by decide⟩
set_option maxRecDepth 100000 in
theorem co_X9_copy : Cond.code yX9_copy cX9_copy 9 (some .int) ∈ gt := gt_of 1414 rfl rfl
theorem ins_X9_copy : Cond.instanceMethod yX9_copy ∈ gt := gt_of 1412 (by decide +kernel) rfl
theorem sel_X9_copy : Cond.selects (yX9_copy).cls yX9_copy yX9_copy ∈ gt := gt_of 1413 (by decide +kernel) rfl
theorem mv_L_123 : MV RL 123 yX9_copy cX9_copy 9 (some .int) 5 := ⟨Or.inl (gt_of 1411 (by decide +kernel) rfl), ins_X9_copy, sel_X9_copy, ini_X9, co_X9_copy, ⟨by decide +kernel, by decide +kernel, by decide +kernel⟩, by decide⟩
set_option maxRecDepth 100000 in
theorem co_X8_walls : Cond.code yX8_walls cX8_walls 9 (some .int) ∈ gt := gt_of 943 rfl rfl
theorem ins_X8_walls : Cond.instanceMethod yX8_walls ∈ gt := gt_of 941 (by decide +kernel) rfl
theorem sel_X8_walls : Cond.selects (yX8_walls).cls yX8_walls yX8_walls ∈ gt := gt_of 942 (by decide +kernel) rfl
theorem mv_L_124 : MV RL 124 yX8_walls cX8_walls 9 (some .int) 4 := ⟨Or.inl (gt_of 940 (by decide +kernel) rfl), ins_X8_walls, sel_X8_walls, ini_X8, co_X8_walls, ⟨by decide +kernel, by decide +kernel, by decide +kernel⟩, by decide⟩
set_option maxRecDepth 100000 in
theorem co_X9_walls : Cond.code yX9_walls cX9_walls 8 (some .int) ∈ gt := gt_of 1418 rfl rfl
theorem ins_X9_walls : Cond.instanceMethod yX9_walls ∈ gt := gt_of 1416 (by decide +kernel) rfl
theorem sel_X9_walls : Cond.selects (yX9_walls).cls yX9_walls yX9_walls ∈ gt := gt_of 1417 (by decide +kernel) rfl
theorem mv_L_128 : MV RL 128 yX9_walls cX9_walls 8 (some .int) 4 := ⟨Or.inl (gt_of 1415 (by decide +kernel) rfl), ins_X9_walls, sel_X9_walls, ini_X9, co_X9_walls, ⟨by decide +kernel, by decide +kernel, by decide +kernel⟩, by decide⟩
set_option maxRecDepth 100000 in
theorem co_X8_taken : Cond.code yX8_taken cX8_taken 3 (some .int) ∈ gt := gt_of 948 rfl rfl
theorem ins_X8_taken : Cond.instanceMethod yX8_taken ∈ gt := gt_of 946 (by decide +kernel) rfl
theorem sel_X8_taken : Cond.selects (yX8_taken).cls yX8_taken yX8_taken ∈ gt := gt_of 947 (by decide +kernel) rfl
theorem mv_L_129 : MV RL 129 yX8_taken cX8_taken 3 (some .int) 2 := ⟨Or.inl (gt_of 945 (by decide +kernel) rfl), ins_X8_taken, sel_X8_taken, ini_X8, co_X8_taken, ⟨by decide +kernel, by decide +kernel, by decide +kernel⟩, by decide⟩
set_option maxRecDepth 100000 in
theorem co_X9_taken : Cond.code yX9_taken cX9_taken 4 (some .int) ∈ gt := gt_of 1423 rfl rfl
theorem ins_X9_taken : Cond.instanceMethod yX9_taken ∈ gt := gt_of 1421 (by decide +kernel) rfl
theorem sel_X9_taken : Cond.selects (yX9_taken).cls yX9_taken yX9_taken ∈ gt := gt_of 1422 (by decide +kernel) rfl
theorem mv_L_132 : MV RL 132 yX9_taken cX9_taken 4 (some .int) 2 := ⟨Or.inl (gt_of 1420 (by decide +kernel) rfl), ins_X9_taken, sel_X9_taken, ini_X9, co_X9_taken, ⟨by decide +kernel, by decide +kernel, by decide +kernel⟩, by decide⟩
set_option maxRecDepth 100000 in
theorem co_X9_spell : Cond.code yX9_spell cX9_spell 10 none ∈ gt := gt_of 961 rfl rfl
theorem ins_X9_spell : Cond.instanceMethod yX9_spell ∈ gt := gt_of 960 (by decide +kernel) rfl
theorem sel_X9_spell : Cond.selects (yX9_spell).cls yX9_spell yX9_spell ∈ gt := gt_of 42 (by decide +kernel) rfl
theorem mv_X9_84 : MV RX9 84 yX9_spell cX9_spell 10 none 9 := ⟨Or.inl (gt_of 958 (by decide +kernel) rfl), ins_X9_spell, sel_X9_spell, ini_X9, co_X9_spell, ⟨by decide +kernel, by decide +kernel, by decide +kernel⟩, by decide⟩
set_option maxRecDepth 100000 in
theorem co_X9_in : Cond.code yX9_in cX9_in 6 (some .boolean) ∈ gt := gt_of 1129 rfl rfl
theorem sta_X9_in : Cond.static yX9_in ∈ gt := gt_of 1128 (by decide +kernel) rfl
theorem ms_X9_94 : MS RX9 94 yX9_in cX9_in 6 (some .boolean) 3 := ⟨Or.inl (gt_of 1127 (by decide +kernel) rfl), sta_X9_in, ini_X9, co_X9_in, ⟨by decide +kernel, by decide +kernel, by decide +kernel⟩, by decide⟩
set_option maxRecDepth 100000 in
theorem co_X9_isWall : Cond.code yX9_isWall cX9_isWall 2 (some .boolean) ∈ gt := gt_of 1133 rfl rfl
theorem ins_X9_isWall : Cond.instanceMethod yX9_isWall ∈ gt := gt_of 1132 (by decide +kernel) rfl
theorem sel_X9_isWall : Cond.selects (yX9_isWall).cls yX9_isWall yX9_isWall ∈ gt := gt_of 43 (by decide +kernel) rfl
theorem mv_X9_100 : MV RX9 100 yX9_isWall cX9_isWall 2 (some .boolean) 1 := ⟨Or.inl (gt_of 1130 (by decide +kernel) rfl), ins_X9_isWall, sel_X9_isWall, ini_X9, co_X9_isWall, ⟨by decide +kernel, by decide +kernel, by decide +kernel⟩, by decide⟩
set_option maxRecDepth 100000 in
theorem co_X9_ripensOf : Cond.code yX9_ripensOf cX9_ripensOf 6 (some .int) ∈ gt := gt_of 1149 rfl rfl
theorem ins_X9_ripensOf : Cond.instanceMethod yX9_ripensOf ∈ gt := gt_of 1148 (by decide +kernel) rfl
theorem sel_X9_ripensOf : Cond.selects (yX9_ripensOf).cls yX9_ripensOf yX9_ripensOf ∈ gt := gt_of 44 (by decide +kernel) rfl
theorem mv_X9_112 : MV RX9 112 yX9_ripensOf cX9_ripensOf 6 (some .int) 1 := ⟨Or.inl (gt_of 1146 (by decide +kernel) rfl), ins_X9_ripensOf, sel_X9_ripensOf, ini_X9, co_X9_ripensOf, ⟨by decide +kernel, by decide +kernel, by decide +kernel⟩, by decide⟩
set_option maxRecDepth 100000 in
theorem co_X9_lastsOf : Cond.code yX9_lastsOf cX9_lastsOf 5 (some .int) ∈ gt := gt_of 1231 rfl rfl
theorem ins_X9_lastsOf : Cond.instanceMethod yX9_lastsOf ∈ gt := gt_of 1230 (by decide +kernel) rfl
theorem sel_X9_lastsOf : Cond.selects (yX9_lastsOf).cls yX9_lastsOf yX9_lastsOf ∈ gt := gt_of 62 (by decide +kernel) rfl
theorem mv_X9_116 : MV RX9 116 yX9_lastsOf cX9_lastsOf 5 (some .int) 1 := ⟨Or.inl (gt_of 1228 (by decide +kernel) rfl), ins_X9_lastsOf, sel_X9_lastsOf, ini_X9, co_X9_lastsOf, ⟨by decide +kernel, by decide +kernel, by decide +kernel⟩, by decide⟩
set_option maxRecDepth 100000 in
theorem co_X9_takesOf : Cond.code yX9_takesOf cX9_takesOf 5 (some .int) ∈ gt := gt_of 1235 rfl rfl
theorem ins_X9_takesOf : Cond.instanceMethod yX9_takesOf ∈ gt := gt_of 1234 (by decide +kernel) rfl
theorem sel_X9_takesOf : Cond.selects (yX9_takesOf).cls yX9_takesOf yX9_takesOf ∈ gt := gt_of 63 (by decide +kernel) rfl
theorem mv_X9_119 : MV RX9 119 yX9_takesOf cX9_takesOf 5 (some .int) 1 := ⟨Or.inl (gt_of 1232 (by decide +kernel) rfl), ins_X9_takesOf, sel_X9_takesOf, ini_X9, co_X9_takesOf, ⟨by decide +kernel, by decide +kernel, by decide +kernel⟩, by decide⟩
set_option maxRecDepth 100000 in
theorem co_X9_byteAt : Cond.code yX9_byteAt cX9_byteAt 2 (some .int) ∈ gt := gt_of 1165 rfl rfl
theorem ins_X9_byteAt : Cond.instanceMethod yX9_byteAt ∈ gt := gt_of 1164 (by decide +kernel) rfl
theorem sel_X9_byteAt : Cond.selects (yX9_byteAt).cls yX9_byteAt yX9_byteAt ∈ gt := gt_of 48 (by decide +kernel) rfl
theorem mv_X9_136 : MV RX9 136 yX9_byteAt cX9_byteAt 2 (some .int) 1 := ⟨Or.inl (gt_of 1162 (by decide +kernel) rfl), ins_X9_byteAt, sel_X9_byteAt, ini_X9, co_X9_byteAt, ⟨by decide +kernel, by decide +kernel, by decide +kernel⟩, by decide⟩
set_option maxRecDepth 100000 in
theorem co_X9_isLetter : Cond.code yX9_isLetter cX9_isLetter 3 (some .boolean) ∈ gt := gt_of 1178 rfl rfl
theorem ins_X9_isLetter : Cond.instanceMethod yX9_isLetter ∈ gt := gt_of 1177 (by decide +kernel) rfl
theorem sel_X9_isLetter : Cond.selects (yX9_isLetter).cls yX9_isLetter yX9_isLetter ∈ gt := gt_of 50 (by decide +kernel) rfl
theorem mv_X9_166 : MV RX9 166 yX9_isLetter cX9_isLetter 3 (some .boolean) 2 := ⟨Or.inl (gt_of 1175 (by decide +kernel) rfl), ins_X9_isLetter, sel_X9_isLetter, ini_X9, co_X9_isLetter, ⟨by decide +kernel, by decide +kernel, by decide +kernel⟩, by decide⟩
set_option maxRecDepth 100000 in
theorem co_X9_fail : Cond.code yX9_fail cX9_fail 1 none ∈ gt := gt_of 1186 rfl rfl
theorem ins_X9_fail : Cond.instanceMethod yX9_fail ∈ gt := gt_of 1185 (by decide +kernel) rfl
theorem sel_X9_fail : Cond.selects (yX9_fail).cls yX9_fail yX9_fail ∈ gt := gt_of 52 (by decide +kernel) rfl
theorem mv_X9_173 : MV RX9 173 yX9_fail cX9_fail 1 none 0 := ⟨Or.inl (gt_of 1183 (by decide +kernel) rfl), ins_X9_fail, sel_X9_fail, ini_X9, co_X9_fail, ⟨by decide +kernel, by decide +kernel, by decide +kernel⟩, by decide⟩
set_option maxRecDepth 100000 in
theorem co_X9_next : Cond.code yX9_next cX9_next 3 none ∈ gt := gt_of 1161 rfl rfl
theorem ins_X9_next : Cond.instanceMethod yX9_next ∈ gt := gt_of 1160 (by decide +kernel) rfl
theorem sel_X9_next : Cond.selects (yX9_next).cls yX9_next yX9_next ∈ gt := gt_of 47 (by decide +kernel) rfl
theorem mv_X9_176 : MV RX9 176 yX9_next cX9_next 3 none 0 := ⟨Or.inl (gt_of 1158 (by decide +kernel) rfl), ins_X9_next, sel_X9_next, ini_X9, co_X9_next, ⟨by decide +kernel, by decide +kernel, by decide +kernel⟩, by decide⟩
set_option maxRecDepth 100000 in
theorem co_X9_isWord : Cond.code yX9_isWord cX9_isWord 9 (some .boolean) ∈ gt := gt_of 1174 rfl rfl
theorem ins_X9_isWord : Cond.instanceMethod yX9_isWord ∈ gt := gt_of 1173 (by decide +kernel) rfl
theorem sel_X9_isWord : Cond.selects (yX9_isWord).cls yX9_isWord yX9_isWord ∈ gt := gt_of 49 (by decide +kernel) rfl
theorem mv_X9_179 : MV RX9 179 yX9_isWord cX9_isWord 9 (some .boolean) 8 := ⟨Or.inl (gt_of 1171 (by decide +kernel) rfl), ins_X9_isWord, sel_X9_isWord, ini_X9, co_X9_isWord, ⟨by decide +kernel, by decide +kernel, by decide +kernel⟩, by decide⟩
set_option maxRecDepth 100000 in
theorem co_X9_isSign : Cond.code yX9_isSign cX9_isSign 2 (some .boolean) ∈ gt := gt_of 1218 rfl rfl
theorem ins_X9_isSign : Cond.instanceMethod yX9_isSign ∈ gt := gt_of 1217 (by decide +kernel) rfl
theorem sel_X9_isSign : Cond.selects (yX9_isSign).cls yX9_isSign yX9_isSign ∈ gt := gt_of 60 (by decide +kernel) rfl
theorem mv_X9_201 : MV RX9 201 yX9_isSign cX9_isSign 2 (some .boolean) 1 := ⟨Or.inl (gt_of 1215 (by decide +kernel) rfl), ins_X9_isSign, sel_X9_isSign, ini_X9, co_X9_isSign, ⟨by decide +kernel, by decide +kernel, by decide +kernel⟩, by decide⟩
set_option maxRecDepth 100000 in
theorem co_X9_opens : Cond.code yX9_opens cX9_opens 1 (some .boolean) ∈ gt := gt_of 1202 rfl rfl
theorem ins_X9_opens : Cond.instanceMethod yX9_opens ∈ gt := gt_of 1201 (by decide +kernel) rfl
theorem sel_X9_opens : Cond.selects (yX9_opens).cls yX9_opens yX9_opens ∈ gt := gt_of 56 (by decide +kernel) rfl
theorem mv_X9_204 : MV RX9 204 yX9_opens cX9_opens 1 (some .boolean) 0 := ⟨Or.inl (gt_of 1199 (by decide +kernel) rfl), ins_X9_opens, sel_X9_opens, ini_X9, co_X9_opens, ⟨by decide +kernel, by decide +kernel, by decide +kernel⟩, by decide⟩
set_option maxRecDepth 100000 in
theorem co_X9_atom : Cond.code yX9_atom cX9_atom 2 (some .int) ∈ gt := gt_of 1214 rfl rfl
theorem ins_X9_atom : Cond.instanceMethod yX9_atom ∈ gt := gt_of 1213 (by decide +kernel) rfl
theorem sel_X9_atom : Cond.selects (yX9_atom).cls yX9_atom yX9_atom ∈ gt := gt_of 59 (by decide +kernel) rfl
theorem mv_X9_208 : MV RX9 208 yX9_atom cX9_atom 2 (some .int) 0 := ⟨Or.inl (gt_of 1211 (by decide +kernel) rfl), ins_X9_atom, sel_X9_atom, ini_X9, co_X9_atom, ⟨by decide +kernel, by decide +kernel, by decide +kernel⟩, by decide⟩
set_option maxRecDepth 100000 in
theorem co_X9_either : Cond.code yX9_either cX9_either 3 (some .int) ∈ gt := gt_of 1190 rfl rfl
theorem ins_X9_either : Cond.instanceMethod yX9_either ∈ gt := gt_of 1189 (by decide +kernel) rfl
theorem sel_X9_either : Cond.selects (yX9_either).cls yX9_either yX9_either ∈ gt := gt_of 53 (by decide +kernel) rfl
theorem mv_X9_212 : MV RX9 212 yX9_either cX9_either 3 (some .int) 0 := ⟨Or.inl (gt_of 1187 (by decide +kernel) rfl), ins_X9_either, sel_X9_either, ini_X9, co_X9_either, ⟨by decide +kernel, by decide +kernel, by decide +kernel⟩, by decide⟩
set_option maxRecDepth 100000 in
theorem co_X9_name : Cond.code yX9_name cX9_name 1 (some .int) ∈ gt := gt_of 1222 rfl rfl
theorem ins_X9_name : Cond.instanceMethod yX9_name ∈ gt := gt_of 1221 (by decide +kernel) rfl
theorem sel_X9_name : Cond.selects (yX9_name).cls yX9_name yX9_name ∈ gt := gt_of 61 (by decide +kernel) rfl
theorem mv_X9_215 : MV RX9 215 yX9_name cX9_name 1 (some .int) 0 := ⟨Or.inl (gt_of 1219 (by decide +kernel) rfl), ins_X9_name, sel_X9_name, ini_X9, co_X9_name, ⟨by decide +kernel, by decide +kernel, by decide +kernel⟩, by decide⟩
set_option maxRecDepth 100000 in
theorem co_X9_term : Cond.code yX9_term cX9_term 2 (some .int) ∈ gt := gt_of 1210 rfl rfl
theorem ins_X9_term : Cond.instanceMethod yX9_term ∈ gt := gt_of 1209 (by decide +kernel) rfl
theorem sel_X9_term : Cond.selects (yX9_term).cls yX9_term yX9_term ∈ gt := gt_of 58 (by decide +kernel) rfl
theorem mv_X9_218 : MV RX9 218 yX9_term cX9_term 2 (some .int) 0 := ⟨Or.inl (gt_of 1207 (by decide +kernel) rfl), ins_X9_term, sel_X9_term, ini_X9, co_X9_term, ⟨by decide +kernel, by decide +kernel, by decide +kernel⟩, by decide⟩
set_option maxRecDepth 100000 in
theorem co_X9_not : Cond.code yX9_not cX9_not 4 (some .int) ∈ gt := gt_of 1198 rfl rfl
theorem ins_X9_not : Cond.instanceMethod yX9_not ∈ gt := gt_of 1197 (by decide +kernel) rfl
theorem sel_X9_not : Cond.selects (yX9_not).cls yX9_not yX9_not ∈ gt := gt_of 55 (by decide +kernel) rfl
theorem mv_X9_223 : MV RX9 223 yX9_not cX9_not 4 (some .int) 0 := ⟨Or.inl (gt_of 1195 (by decide +kernel) rfl), ins_X9_not, sel_X9_not, ini_X9, co_X9_not, ⟨by decide +kernel, by decide +kernel, by decide +kernel⟩, by decide⟩
set_option maxRecDepth 100000 in
theorem co_X9_added : Cond.code yX9_added cX9_added 4 (some .int) ∈ gt := gt_of 1206 rfl rfl
theorem ins_X9_added : Cond.instanceMethod yX9_added ∈ gt := gt_of 1205 (by decide +kernel) rfl
theorem sel_X9_added : Cond.selects (yX9_added).cls yX9_added yX9_added ∈ gt := gt_of 57 (by decide +kernel) rfl
theorem mv_X9_226 : MV RX9 226 yX9_added cX9_added 4 (some .int) 0 := ⟨Or.inl (gt_of 1203 (by decide +kernel) rfl), ins_X9_added, sel_X9_added, ini_X9, co_X9_added, ⟨by decide +kernel, by decide +kernel, by decide +kernel⟩, by decide⟩
set_option maxRecDepth 100000 in
theorem co_X9_both : Cond.code yX9_both cX9_both 3 (some .int) ∈ gt := gt_of 1194 rfl rfl
theorem ins_X9_both : Cond.instanceMethod yX9_both ∈ gt := gt_of 1193 (by decide +kernel) rfl
theorem sel_X9_both : Cond.selects (yX9_both).cls yX9_both yX9_both ∈ gt := gt_of 54 (by decide +kernel) rfl
theorem mv_X9_231 : MV RX9 231 yX9_both cX9_both 3 (some .int) 0 := ⟨Or.inl (gt_of 1191 (by decide +kernel) rfl), ins_X9_both, sel_X9_both, ini_X9, co_X9_both, ⟨by decide +kernel, by decide +kernel, by decide +kernel⟩, by decide⟩
set_option maxRecDepth 100000 in
theorem co_X9_part : Cond.code yX9_part cX9_part 3 (some .int) ∈ gt := gt_of 1182 rfl rfl
theorem ins_X9_part : Cond.instanceMethod yX9_part ∈ gt := gt_of 1181 (by decide +kernel) rfl
theorem sel_X9_part : Cond.selects (yX9_part).cls yX9_part yX9_part ∈ gt := gt_of 51 (by decide +kernel) rfl
theorem mv_X9_234 : MV RX9 234 yX9_part cX9_part 3 (some .int) 1 := ⟨Or.inl (gt_of 1179 (by decide +kernel) rfl), ins_X9_part, sel_X9_part, ini_X9, co_X9_part, ⟨by decide +kernel, by decide +kernel, by decide +kernel⟩, by decide⟩
set_option maxRecDepth 100000 in
theorem co_X9_read : Cond.code yX9_read cX9_read 6 (some .int) ∈ gt := gt_of 1157 rfl rfl
theorem ins_X9_read : Cond.instanceMethod yX9_read ∈ gt := gt_of 1156 (by decide +kernel) rfl
theorem sel_X9_read : Cond.selects (yX9_read).cls yX9_read yX9_read ∈ gt := gt_of 46 (by decide +kernel) rfl
theorem mv_X9_238 : MV RX9 238 yX9_read cX9_read 6 (some .int) 2 := ⟨Or.inl (gt_of 1154 (by decide +kernel) rfl), ins_X9_read, sel_X9_read, ini_X9, co_X9_read, ⟨by decide +kernel, by decide +kernel, by decide +kernel⟩, by decide⟩
set_option maxRecDepth 100000 in
theorem co_X9_within : Cond.code yX9_within cX9_within 3 (some .int) ∈ gt := gt_of 1227 rfl rfl
theorem sta_X9_within : Cond.static yX9_within ∈ gt := gt_of 1226 (by decide +kernel) rfl
theorem ms_X9_245 : MS RX9 245 yX9_within cX9_within 3 (some .int) 3 := ⟨Or.inl (gt_of 1225 (by decide +kernel) rfl), sta_X9_within, ini_X9, co_X9_within, ⟨by decide +kernel, by decide +kernel, by decide +kernel⟩, by decide⟩
set_option maxRecDepth 100000 in
theorem co_X9_says : Cond.code yX9_says cX9_says 6 (some .int) ∈ gt := gt_of 1153 rfl rfl
theorem ins_X9_says : Cond.instanceMethod yX9_says ∈ gt := gt_of 1152 (by decide +kernel) rfl
theorem sel_X9_says : Cond.selects (yX9_says).cls yX9_says yX9_says ∈ gt := gt_of 45 (by decide +kernel) rfl
theorem mv_X9_249 : MV RX9 249 yX9_says cX9_says 6 (some .int) 5 := ⟨Or.inl (gt_of 1150 (by decide +kernel) rfl), ins_X9_says, sel_X9_says, ini_X9, co_X9_says, ⟨by decide +kernel, by decide +kernel, by decide +kernel⟩, by decide⟩
set_option maxRecDepth 100000 in
theorem co_X9_toTrowel : Cond.code yX9_toTrowel cX9_toTrowel 5 (some .int) ∈ gt := gt_of 1275 rfl rfl
theorem ins_X9_toTrowel : Cond.instanceMethod yX9_toTrowel ∈ gt := gt_of 1274 (by decide +kernel) rfl
theorem sel_X9_toTrowel : Cond.selects (yX9_toTrowel).cls yX9_toTrowel yX9_toTrowel ∈ gt := gt_of 68 (by decide +kernel) rfl
theorem mv_X9_270 : MV RX9 270 yX9_toTrowel cX9_toTrowel 5 (some .int) 0 := ⟨Or.inl (gt_of 1272 (by decide +kernel) rfl), ins_X9_toTrowel, sel_X9_toTrowel, ini_X9, co_X9_toTrowel, ⟨by decide +kernel, by decide +kernel, by decide +kernel⟩, by decide⟩
set_option maxRecDepth 100000 in
theorem co_X9_trowels : Cond.code yX9_trowels cX9_trowels 4 none ∈ gt := gt_of 1279 rfl rfl
theorem ins_X9_trowels : Cond.instanceMethod yX9_trowels ∈ gt := gt_of 1278 (by decide +kernel) rfl
theorem sel_X9_trowels : Cond.selects (yX9_trowels).cls yX9_trowels yX9_trowels ∈ gt := gt_of 69 (by decide +kernel) rfl
theorem mv_X9_273 : MV RX9 273 yX9_trowels cX9_trowels 4 none 1 := ⟨Or.inl (gt_of 1276 (by decide +kernel) rfl), ins_X9_trowels, sel_X9_trowels, ini_X9, co_X9_trowels, ⟨by decide +kernel, by decide +kernel, by decide +kernel⟩, by decide⟩
set_option maxRecDepth 100000 in
theorem co_X9_begins : Cond.code yX9_begins cX9_begins 2 none ∈ gt := gt_of 1283 rfl rfl
theorem ins_X9_begins : Cond.instanceMethod yX9_begins ∈ gt := gt_of 1282 (by decide +kernel) rfl
theorem sel_X9_begins : Cond.selects (yX9_begins).cls yX9_begins yX9_begins ∈ gt := gt_of 70 (by decide +kernel) rfl
theorem mv_X9_277 : MV RX9 277 yX9_begins cX9_begins 2 none 1 := ⟨Or.inl (gt_of 1280 (by decide +kernel) rfl), ins_X9_begins, sel_X9_begins, ini_X9, co_X9_begins, ⟨by decide +kernel, by decide +kernel, by decide +kernel⟩, by decide⟩
set_option maxRecDepth 100000 in
theorem co_X9_gathers : Cond.code yX9_gathers cX9_gathers 3 none ∈ gt := gt_of 1267 rfl rfl
theorem ins_X9_gathers : Cond.instanceMethod yX9_gathers ∈ gt := gt_of 1266 (by decide +kernel) rfl
theorem sel_X9_gathers : Cond.selects (yX9_gathers).cls yX9_gathers yX9_gathers ∈ gt := gt_of 66 (by decide +kernel) rfl
theorem mv_X9_280 : MV RX9 280 yX9_gathers cX9_gathers 3 none 0 := ⟨Or.inl (gt_of 1264 (by decide +kernel) rfl), ins_X9_gathers, sel_X9_gathers, ini_X9, co_X9_gathers, ⟨by decide +kernel, by decide +kernel, by decide +kernel⟩, by decide⟩
set_option maxRecDepth 100000 in
theorem co_X9_lives : Cond.code yX9_lives cX9_lives 3 none ∈ gt := gt_of 1271 rfl rfl
theorem ins_X9_lives : Cond.instanceMethod yX9_lives ∈ gt := gt_of 1270 (by decide +kernel) rfl
theorem sel_X9_lives : Cond.selects (yX9_lives).cls yX9_lives yX9_lives ∈ gt := gt_of 67 (by decide +kernel) rfl
theorem mv_X9_283 : MV RX9 283 yX9_lives cX9_lives 3 none 0 := ⟨Or.inl (gt_of 1268 (by decide +kernel) rfl), ins_X9_lives, sel_X9_lives, ini_X9, co_X9_lives, ⟨by decide +kernel, by decide +kernel, by decide +kernel⟩, by decide⟩
set_option maxRecDepth 100000 in
theorem co_X9_setOf : Cond.code yX9_setOf cX9_setOf 4 (some .int) ∈ gt := gt_of 1291 rfl rfl
theorem ins_X9_setOf : Cond.instanceMethod yX9_setOf ∈ gt := gt_of 1290 (by decide +kernel) rfl
theorem sel_X9_setOf : Cond.selects (yX9_setOf).cls yX9_setOf yX9_setOf ∈ gt := gt_of 72 (by decide +kernel) rfl
theorem mv_X9_290 : MV RX9 290 yX9_setOf cX9_setOf 4 (some .int) 1 := ⟨Or.inl (gt_of 1288 (by decide +kernel) rfl), ins_X9_setOf, sel_X9_setOf, ini_X9, co_X9_setOf, ⟨by decide +kernel, by decide +kernel, by decide +kernel⟩, by decide⟩
set_option maxRecDepth 100000 in
theorem co_X9_isTells : Cond.code yX9_isTells cX9_isTells 2 (some .boolean) ∈ gt := gt_of 1256 rfl rfl
theorem ins_X9_isTells : Cond.instanceMethod yX9_isTells ∈ gt := gt_of 1255 (by decide +kernel) rfl
theorem sel_X9_isTells : Cond.selects (yX9_isTells).cls yX9_isTells yX9_isTells ∈ gt := gt_of 64 (by decide +kernel) rfl
theorem mv_X9_293 : MV RX9 293 yX9_isTells cX9_isTells 2 (some .boolean) 1 := ⟨Or.inl (gt_of 1253 (by decide +kernel) rfl), ins_X9_isTells, sel_X9_isTells, ini_X9, co_X9_isTells, ⟨by decide +kernel, by decide +kernel, by decide +kernel⟩, by decide⟩
set_option maxRecDepth 100000 in
theorem co_X9_livesPlain : Cond.code yX9_livesPlain cX9_livesPlain 3 none ∈ gt := gt_of 1263 rfl rfl
theorem ins_X9_livesPlain : Cond.instanceMethod yX9_livesPlain ∈ gt := gt_of 1262 (by decide +kernel) rfl
theorem sel_X9_livesPlain : Cond.selects (yX9_livesPlain).cls yX9_livesPlain yX9_livesPlain ∈ gt := gt_of 65 (by decide +kernel) rfl
theorem mv_X9_297 : MV RX9 297 yX9_livesPlain cX9_livesPlain 3 none 1 := ⟨Or.inl (gt_of 1260 (by decide +kernel) rfl), ins_X9_livesPlain, sel_X9_livesPlain, ini_X9, co_X9_livesPlain, ⟨by decide +kernel, by decide +kernel, by decide +kernel⟩, by decide⟩
set_option maxRecDepth 100000 in
theorem co_X9_tells : Cond.code yX9_tells cX9_tells 3 (some .int) ∈ gt := gt_of 1287 rfl rfl
theorem ins_X9_tells : Cond.instanceMethod yX9_tells ∈ gt := gt_of 1286 (by decide +kernel) rfl
theorem sel_X9_tells : Cond.selects (yX9_tells).cls yX9_tells yX9_tells ∈ gt := gt_of 71 (by decide +kernel) rfl
theorem mv_X9_300 : MV RX9 300 yX9_tells cX9_tells 3 (some .int) 1 := ⟨Or.inl (gt_of 1284 (by decide +kernel) rfl), ins_X9_tells, sel_X9_tells, ini_X9, co_X9_tells, ⟨by decide +kernel, by decide +kernel, by decide +kernel⟩, by decide⟩
set_option maxRecDepth 100000 in
theorem co_X9_isSheet : Cond.code yX9_isSheet cX9_isSheet 1 (some .boolean) ∈ gt := gt_of 1298 rfl rfl
theorem sta_X9_isSheet : Cond.static yX9_isSheet ∈ gt := gt_of 1297 (by decide +kernel) rfl
theorem ms_X9_303 : MS RX9 303 yX9_isSheet cX9_isSheet 1 (some .boolean) 1 := ⟨Or.inl (gt_of 1296 (by decide +kernel) rfl), sta_X9_isSheet, ini_X9, co_X9_isSheet, ⟨by decide +kernel, by decide +kernel, by decide +kernel⟩, by decide⟩
set_option maxRecDepth 100000 in
theorem co_X9_laysOrder : Cond.code yX9_laysOrder cX9_laysOrder 5 (some .boolean) ∈ gt := gt_of 1303 rfl rfl
theorem ins_X9_laysOrder : Cond.instanceMethod yX9_laysOrder ∈ gt := gt_of 1302 (by decide +kernel) rfl
theorem sel_X9_laysOrder : Cond.selects (yX9_laysOrder).cls yX9_laysOrder yX9_laysOrder ∈ gt := gt_of 73 (by decide +kernel) rfl
theorem mv_X9_306 : MV RX9 306 yX9_laysOrder cX9_laysOrder 5 (some .boolean) 1 := ⟨Or.inl (gt_of 1300 (by decide +kernel) rfl), ins_X9_laysOrder, sel_X9_laysOrder, ini_X9, co_X9_laysOrder, ⟨by decide +kernel, by decide +kernel, by decide +kernel⟩, by decide⟩
set_option maxRecDepth 100000 in
theorem co_X9_triesFrom : Cond.code yX9_triesFrom cX9_triesFrom 4 none ∈ gt := gt_of 1312 rfl rfl
theorem ins_X9_triesFrom : Cond.instanceMethod yX9_triesFrom ∈ gt := gt_of 1311 (by decide +kernel) rfl
theorem sel_X9_triesFrom : Cond.selects (yX9_triesFrom).cls yX9_triesFrom yX9_triesFrom ∈ gt := gt_of 74 (by decide +kernel) rfl
theorem mv_X9_318 : MV RX9 318 yX9_triesFrom cX9_triesFrom 4 none 2 := ⟨Or.inl (gt_of 1309 (by decide +kernel) rfl), ins_X9_triesFrom, sel_X9_triesFrom, ini_X9, co_X9_triesFrom, ⟨by decide +kernel, by decide +kernel, by decide +kernel⟩, by decide⟩
set_option maxRecDepth 100000 in
theorem co_X9_wet : Cond.code yX9_wet cX9_wet 3 none ∈ gt := gt_of 1325 rfl rfl
theorem ins_X9_wet : Cond.instanceMethod yX9_wet ∈ gt := gt_of 1324 (by decide +kernel) rfl
theorem sel_X9_wet : Cond.selects (yX9_wet).cls yX9_wet yX9_wet ∈ gt := gt_of 75 (by decide +kernel) rfl
theorem mv_X9_326 : MV RX9 326 yX9_wet cX9_wet 3 none 1 := ⟨Or.inl (gt_of 1322 (by decide +kernel) rfl), ins_X9_wet, sel_X9_wet, ini_X9, co_X9_wet, ⟨by decide +kernel, by decide +kernel, by decide +kernel⟩, by decide⟩
set_option maxRecDepth 100000 in
theorem co_X9_bitsOf : Cond.code yX9_bitsOf cX9_bitsOf 3 (some .int) ∈ gt := gt_of 1328 rfl rfl
theorem sta_X9_bitsOf : Cond.static yX9_bitsOf ∈ gt := gt_of 1327 (by decide +kernel) rfl
theorem ms_X9_329 : MS RX9 329 yX9_bitsOf cX9_bitsOf 3 (some .int) 1 := ⟨Or.inl (gt_of 1326 (by decide +kernel) rfl), sta_X9_bitsOf, ini_X9, co_X9_bitsOf, ⟨by decide +kernel, by decide +kernel, by decide +kernel⟩, by decide⟩
set_option maxRecDepth 100000 in
theorem co_X9_livesBy : Cond.code yX9_livesBy cX9_livesBy 4 none ∈ gt := gt_of 1340 rfl rfl
theorem ins_X9_livesBy : Cond.instanceMethod yX9_livesBy ∈ gt := gt_of 1339 (by decide +kernel) rfl
theorem sel_X9_livesBy : Cond.selects (yX9_livesBy).cls yX9_livesBy yX9_livesBy ∈ gt := gt_of 76 (by decide +kernel) rfl
theorem mv_X9_332 : MV RX9 332 yX9_livesBy cX9_livesBy 4 none 2 := ⟨Or.inl (gt_of 1337 (by decide +kernel) rfl), ins_X9_livesBy, sel_X9_livesBy, ini_X9, co_X9_livesBy, ⟨by decide +kernel, by decide +kernel, by decide +kernel⟩, by decide⟩
set_option maxRecDepth 100000 in
theorem co_X9_tellsSort : Cond.code yX9_tellsSort cX9_tellsSort 2 (some .int) ∈ gt := gt_of 1358 rfl rfl
theorem ins_X9_tellsSort : Cond.instanceMethod yX9_tellsSort ∈ gt := gt_of 1357 (by decide +kernel) rfl
theorem sel_X9_tellsSort : Cond.selects (yX9_tellsSort).cls yX9_tellsSort yX9_tellsSort ∈ gt := gt_of 77 (by decide +kernel) rfl
theorem mv_X9_341 : MV RX9 341 yX9_tellsSort cX9_tellsSort 2 (some .int) 1 := ⟨Or.inl (gt_of 1355 (by decide +kernel) rfl), ins_X9_tellsSort, sel_X9_tellsSort, ini_X9, co_X9_tellsSort, ⟨by decide +kernel, by decide +kernel, by decide +kernel⟩, by decide⟩
set_option maxRecDepth 100000 in
theorem co_X9_laysSort : Cond.code yX9_laysSort cX9_laysSort 3 none ∈ gt := gt_of 1362 rfl rfl
theorem ins_X9_laysSort : Cond.instanceMethod yX9_laysSort ∈ gt := gt_of 1361 (by decide +kernel) rfl
theorem sel_X9_laysSort : Cond.selects (yX9_laysSort).cls yX9_laysSort yX9_laysSort ∈ gt := gt_of 78 (by decide +kernel) rfl
theorem mv_X9_344 : MV RX9 344 yX9_laysSort cX9_laysSort 3 none 2 := ⟨Or.inl (gt_of 1359 (by decide +kernel) rfl), ins_X9_laysSort, sel_X9_laysSort, ini_X9, co_X9_laysSort, ⟨by decide +kernel, by decide +kernel, by decide +kernel⟩, by decide⟩
set_option maxRecDepth 100000 in
theorem co_X9_isSo : Cond.code yX9_isSo cX9_isSo 3 (some .boolean) ∈ gt := gt_of 1366 rfl rfl
theorem ins_X9_isSo : Cond.instanceMethod yX9_isSo ∈ gt := gt_of 1365 (by decide +kernel) rfl
theorem sel_X9_isSo : Cond.selects (yX9_isSo).cls yX9_isSo yX9_isSo ∈ gt := gt_of 79 (by decide +kernel) rfl
theorem mv_X9_347 : MV RX9 347 yX9_isSo cX9_isSo 3 (some .boolean) 1 := ⟨Or.inl (gt_of 1363 (by decide +kernel) rfl), ins_X9_isSo, sel_X9_isSo, ini_X9, co_X9_isSo, ⟨by decide +kernel, by decide +kernel, by decide +kernel⟩, by decide⟩
theorem mv_X9_352 : MV RX9 352 yX9_sheet cX9_sheet 5 (some .int) 3 := ⟨Or.inl (gt_of 1376 (by decide +kernel) rfl), ins_X9_sheet, sel_X9_sheet, ini_X9, co_X9_sheet, ⟨by decide +kernel, by decide +kernel, by decide +kernel⟩, by decide⟩
set_option maxRecDepth 100000 in
theorem co_X9_draws : Cond.code yX9_draws cX9_draws 2 none ∈ gt := gt_of 1388 rfl rfl
theorem ins_X9_draws : Cond.instanceMethod yX9_draws ∈ gt := gt_of 1387 (by decide +kernel) rfl
theorem sel_X9_draws : Cond.selects (yX9_draws).cls yX9_draws yX9_draws ∈ gt := gt_of 80 (by decide +kernel) rfl
theorem mv_X9_356 : MV RX9 356 yX9_draws cX9_draws 2 none 1 := ⟨Or.inl (gt_of 1385 (by decide +kernel) rfl), ins_X9_draws, sel_X9_draws, ini_X9, co_X9_draws, ⟨by decide +kernel, by decide +kernel, by decide +kernel⟩, by decide⟩
theorem mv_X9_364 : MV RX9 364 yX9_wall cX9_wall 4 (some .int) 3 := ⟨Or.inl (gt_of 1419 (by decide +kernel) rfl), ins_X9_wall, sel_X9_wall, ini_X9, co_X9_wall, ⟨by decide +kernel, by decide +kernel, by decide +kernel⟩, by decide⟩
set_option maxRecDepth 100000 in
theorem co_X9_over : Cond.code yX9_over cX9_over 1 (some .int) ∈ gt := gt_of 1426 rfl rfl
theorem sta_X9_over : Cond.static yX9_over ∈ gt := gt_of 1425 (by decide +kernel) rfl
theorem ms_X9_367 : MS RX9 367 yX9_over cX9_over 1 (some .int) 1 := ⟨Or.inl (gt_of 1424 (by decide +kernel) rfl), sta_X9_over, ini_X9, co_X9_over, ⟨by decide +kernel, by decide +kernel, by decide +kernel⟩, by decide⟩
set_option maxRecDepth 100000 in
theorem co_J0_coder_7d493 : Cond.code yJ0_coder_7d493 cJ0_coder_7d493 1 (some .byte) ∈ gt := gt_of 346 rfl rfl
theorem ins_J0_coder_7d493 : Cond.instanceMethod yJ0_coder_7d493 ∈ gt := gt_of 344 (by decide +kernel) rfl
theorem sel_J0_coder_7d493 : Cond.selects (yJ0_coder_7d493).cls yJ0_coder_7d493 yJ0_coder_7d493 ∈ gt := gt_of 345 (by decide +kernel) rfl
theorem mv_J0_335 : MV RJ0 335 yJ0_coder_7d493 cJ0_coder_7d493 1 (some .byte) 0 := ⟨Or.inl (gt_of 343 (by decide +kernel) rfl), ins_J0_coder_7d493, sel_J0_coder_7d493, ini_J0, co_J0_coder_7d493, ⟨by decide +kernel, by decide +kernel, by decide +kernel⟩, by decide⟩
set_option maxRecDepth 100000 in
theorem co_J0_isLatin1_aae02 : Cond.code yJ0_isLatin1_aae02 cJ0_isLatin1_aae02 1 (some .boolean) ∈ gt := gt_of 356 rfl rfl
theorem ins_J0_isLatin1_aae02 : Cond.instanceMethod yJ0_isLatin1_aae02 ∈ gt := gt_of 354 (by decide +kernel) rfl
theorem sel_J0_isLatin1_aae02 : Cond.selects (yJ0_isLatin1_aae02).cls yJ0_isLatin1_aae02 yJ0_isLatin1_aae02 ∈ gt := gt_of 355 (by decide +kernel) rfl
theorem mv_J0_492 : MV RJ0 492 yJ0_isLatin1_aae02 cJ0_isLatin1_aae02 1 (some .boolean) 0 := ⟨Or.inl (gt_of 353 (by decide +kernel) rfl), ins_J0_isLatin1_aae02, sel_J0_isLatin1_aae02, ini_J0, co_J0_isLatin1_aae02, ⟨by decide +kernel, by decide +kernel, by decide +kernel⟩, by decide⟩
set_option maxRecDepth 100000 in
theorem co_J1_charAt_3b067 : Cond.code yJ1_charAt_3b067 cJ1_charAt_3b067 2 (some .char) ∈ gt := gt_of 359 rfl rfl
theorem sta_J1_charAt_3b067 : Cond.static yJ1_charAt_3b067 ∈ gt := gt_of 358 (by decide +kernel) rfl
theorem ini_J1 : Cond.initialized RJ1 ∈ gt := gt_of 91 (by decide +kernel) rfl
theorem ms_J0_495 : MS RJ0 495 yJ1_charAt_3b067 cJ1_charAt_3b067 2 (some .char) 2 := ⟨Or.inl (gt_of 357 (by decide +kernel) rfl), sta_J1_charAt_3b067, ini_J1, co_J1_charAt_3b067, ⟨by decide +kernel, by decide +kernel, by decide +kernel⟩, by decide⟩
set_option maxRecDepth 100000 in
theorem co_J2_charAt_3b067 : Cond.code yJ2_charAt_3b067 cJ2_charAt_3b067 2 (some .char) ∈ gt := gt_of 370 rfl rfl
theorem sta_J2_charAt_3b067 : Cond.static yJ2_charAt_3b067 ∈ gt := gt_of 369 (by decide +kernel) rfl
theorem ini_J2 : Cond.initialized RJ2 ∈ gt := gt_of 93 (by decide +kernel) rfl
theorem ms_J0_498 : MS RJ0 498 yJ2_charAt_3b067 cJ2_charAt_3b067 2 (some .char) 2 := ⟨Or.inl (gt_of 368 (by decide +kernel) rfl), sta_J2_charAt_3b067, ini_J2, co_J2_charAt_3b067, ⟨by decide +kernel, by decide +kernel, by decide +kernel⟩, by decide⟩
theorem mv_J0_505 : MV RJ0 505 yJ0_length_8abf5 cJ0_length_8abf5 1 (some .int) 0 := ⟨Or.inl (gt_of 430 (by decide +kernel) rfl), ins_J0_length_8abf5, sel_J0_length_8abf5, ini_J0, co_J0_length_8abf5, ⟨by decide +kernel, by decide +kernel, by decide +kernel⟩, by decide⟩
set_option maxRecDepth 100000 in
theorem co_J0_indexOf_7cf53 : Cond.code yJ0_indexOf_7cf53 cJ0_indexOf_7cf53 3 (some .int) ∈ gt := gt_of 429 rfl rfl
theorem ins_J0_indexOf_7cf53 : Cond.instanceMethod yJ0_indexOf_7cf53 ∈ gt := gt_of 427 (by decide +kernel) rfl
theorem sel_J0_indexOf_7cf53 : Cond.selects (yJ0_indexOf_7cf53).cls yJ0_indexOf_7cf53 yJ0_indexOf_7cf53 ∈ gt := gt_of 428 (by decide +kernel) rfl
theorem mv_J0_633 : MV RJ0 633 yJ0_indexOf_7cf53 cJ0_indexOf_7cf53 3 (some .int) 2 := ⟨Or.inl (gt_of 426 (by decide +kernel) rfl), ins_J0_indexOf_7cf53, sel_J0_indexOf_7cf53, ini_J0, co_J0_indexOf_7cf53, ⟨by decide +kernel, by decide +kernel, by decide +kernel⟩, by decide⟩
set_option maxRecDepth 100000 in
theorem co_J1_indexOf_4cfef : Cond.code yJ1_indexOf_4cfef cJ1_indexOf_4cfef 4 (some .int) ∈ gt := gt_of 433 rfl rfl
theorem sta_J1_indexOf_4cfef : Cond.static yJ1_indexOf_4cfef ∈ gt := gt_of 432 (by decide +kernel) rfl
theorem ms_J0_637 : MS RJ0 637 yJ1_indexOf_4cfef cJ1_indexOf_4cfef 4 (some .int) 4 := ⟨Or.inl (gt_of 431 (by decide +kernel) rfl), sta_J1_indexOf_4cfef, ini_J1, co_J1_indexOf_4cfef, ⟨by decide +kernel, by decide +kernel, by decide +kernel⟩, by decide⟩
set_option maxRecDepth 100000 in
theorem co_J2_indexOf_4cfef : Cond.code yJ2_indexOf_4cfef cJ2_indexOf_4cfef 4 (some .int) ∈ gt := gt_of 448 rfl rfl
theorem sta_J2_indexOf_4cfef : Cond.static yJ2_indexOf_4cfef ∈ gt := gt_of 447 (by decide +kernel) rfl
theorem ms_J0_640 : MS RJ0 640 yJ2_indexOf_4cfef cJ2_indexOf_4cfef 4 (some .int) 4 := ⟨Or.inl (gt_of 446 (by decide +kernel) rfl), sta_J2_indexOf_4cfef, ini_J2, co_J2_indexOf_4cfef, ⟨by decide +kernel, by decide +kernel, by decide +kernel⟩, by decide⟩
set_option maxRecDepth 100000 in
theorem co_J3_checkIndex_8e157 : Cond.code yJ3_checkIndex_8e157 cJ3_checkIndex_8e157 3 (some .int) ∈ gt := gt_of 367 rfl rfl
theorem sta_J3_checkIndex_8e157 : Cond.static yJ3_checkIndex_8e157 ∈ gt := gt_of 366 (by decide +kernel) rfl
theorem ini_J3 : Cond.initialized RJ3 ∈ gt := gt_of 92 (by decide +kernel) rfl
theorem ms_J0_1059 : MS RJ0 1059 yJ3_checkIndex_8e157 cJ3_checkIndex_8e157 3 (some .int) 3 := ⟨Or.inl (gt_of 365 (by decide +kernel) rfl), sta_J3_checkIndex_8e157, ini_J3, co_J3_checkIndex_8e157, ⟨by decide +kernel, by decide +kernel, by decide +kernel⟩, by decide⟩
set_option maxRecDepth 100000 in
theorem co_J3_checkFromToIndex_8c36e : Cond.code yJ3_checkFromToIndex_8c36e cJ3_checkFromToIndex_8c36e 4 (some .int) ∈ gt := gt_of 463 rfl rfl
theorem sta_J3_checkFromToIndex_8c36e : Cond.static yJ3_checkFromToIndex_8c36e ∈ gt := gt_of 462 (by decide +kernel) rfl
theorem ms_J0_1062 : MS RJ0 1062 yJ3_checkFromToIndex_8c36e cJ3_checkFromToIndex_8c36e 4 (some .int) 4 := ⟨Or.inl (gt_of 461 (by decide +kernel) rfl), sta_J3_checkFromToIndex_8c36e, ini_J3, co_J3_checkFromToIndex_8c36e, ⟨by decide +kernel, by decide +kernel, by decide +kernel⟩, by decide⟩
set_option maxRecDepth 100000 in
theorem co_J0_checkIndex_df160 : Cond.code yJ0_checkIndex_df160 cJ0_checkIndex_df160 2 none ∈ gt := gt_of 362 rfl rfl
theorem sta_J0_checkIndex_df160 : Cond.static yJ0_checkIndex_df160 ∈ gt := gt_of 361 (by decide +kernel) rfl
theorem ms_J1_9 : MS RJ1 9 yJ0_checkIndex_df160 cJ0_checkIndex_df160 2 none 2 := ⟨Or.inl (gt_of 360 (by decide +kernel) rfl), sta_J0_checkIndex_df160, ini_J0, co_J0_checkIndex_df160, ⟨by decide +kernel, by decide +kernel, by decide +kernel⟩, by decide⟩
theorem ms_J1_38 : MS RJ1 38 yJ9_min_7cf53 cJ9_min_7cf53 2 (some .int) 2 := ⟨Or.inl (gt_of 440 (by decide +kernel) rfl), sta_J9_min_7cf53, ini_J9, co_J9_min_7cf53, ⟨by decide +kernel, by decide +kernel, by decide +kernel⟩, by decide⟩
set_option maxRecDepth 100000 in
theorem co_J1_canEncode_9a6ad : Cond.code yJ1_canEncode_9a6ad cJ1_canEncode_9a6ad 1 (some .boolean) ∈ gt := gt_of 436 rfl rfl
theorem sta_J1_canEncode_9a6ad : Cond.static yJ1_canEncode_9a6ad ∈ gt := gt_of 435 (by decide +kernel) rfl
theorem ms_J1_88 : MS RJ1 88 yJ1_canEncode_9a6ad cJ1_canEncode_9a6ad 1 (some .boolean) 1 := ⟨Or.inl (gt_of 434 (by decide +kernel) rfl), sta_J1_canEncode_9a6ad, ini_J1, co_J1_canEncode_9a6ad, ⟨by decide +kernel, by decide +kernel, by decide +kernel⟩, by decide⟩
theorem ms_J1_92 : MS RJ1 92 yJ9_max_7cf53 cJ9_max_7cf53 2 (some .int) 2 := ⟨Or.inl (gt_of 437 (by decide +kernel) rfl), sta_J9_max_7cf53, ini_J9, co_J9_max_7cf53, ⟨by decide +kernel, by decide +kernel, by decide +kernel⟩, by decide⟩
set_option maxRecDepth 100000 in
theorem co_J1_indexOfChar_4cfef : Cond.code yJ1_indexOfChar_4cfef cJ1_indexOfChar_4cfef 6 (some .int) ∈ gt := gt_of 445 rfl rfl
theorem sta_J1_indexOfChar_4cfef : Cond.static yJ1_indexOfChar_4cfef ∈ gt := gt_of 444 (by decide +kernel) rfl
theorem ms_J1_95 : MS RJ1 95 yJ1_indexOfChar_4cfef cJ1_indexOfChar_4cfef 6 (some .int) 4 := ⟨Or.inl (gt_of 443 (by decide +kernel) rfl), sta_J1_indexOfChar_4cfef, ini_J1, co_J1_indexOfChar_4cfef, ⟨by decide +kernel, by decide +kernel, by decide +kernel⟩, by decide⟩
set_option maxRecDepth 100000 in
theorem co_J2_length_9d52b : Cond.code yJ2_length_9d52b cJ2_length_9d52b 1 (some .int) ∈ gt := gt_of 376 rfl rfl
theorem sta_J2_length_9d52b : Cond.static yJ2_length_9d52b ∈ gt := gt_of 375 (by decide +kernel) rfl
theorem ms_J2_48 : MS RJ2 48 yJ2_length_9d52b cJ2_length_9d52b 1 (some .int) 1 := ⟨Or.inl (gt_of 374 (by decide +kernel) rfl), sta_J2_length_9d52b, ini_J2, co_J2_length_9d52b, ⟨by decide +kernel, by decide +kernel, by decide +kernel⟩, by decide⟩
set_option maxRecDepth 100000 in
theorem co_J2_checkIndex_2214a : Cond.code yJ2_checkIndex_2214a cJ2_checkIndex_2214a 2 none ∈ gt := gt_of 373 rfl rfl
theorem sta_J2_checkIndex_2214a : Cond.static yJ2_checkIndex_2214a ∈ gt := gt_of 372 (by decide +kernel) rfl
theorem ms_J2_67 : MS RJ2 67 yJ2_checkIndex_2214a cJ2_checkIndex_2214a 2 none 2 := ⟨Or.inl (gt_of 371 (by decide +kernel) rfl), sta_J2_checkIndex_2214a, ini_J2, co_J2_checkIndex_2214a, ⟨by decide +kernel, by decide +kernel, by decide +kernel⟩, by decide⟩
set_option maxRecDepth 100000 in
theorem co_J2_getChar_3b067 : Cond.code yJ2_getChar_3b067 cJ2_getChar_3b067 2 (some .char) ∈ gt := gt_of 380 rfl rfl
theorem sta_J2_getChar_3b067 : Cond.static yJ2_getChar_3b067 ∈ gt := gt_of 379 (by decide +kernel) rfl
theorem ms_J2_71 : MS RJ2 71 yJ2_getChar_3b067 cJ2_getChar_3b067 2 (some .char) 2 := ⟨Or.inl (gt_of 378 (by decide +kernel) rfl), sta_J2_getChar_3b067, ini_J2, co_J2_getChar_3b067, ⟨by decide +kernel, by decide +kernel, by decide +kernel⟩, by decide⟩
set_option maxRecDepth 100000 in
theorem co_J2_checkBoundsBeginEnd_d044e : Cond.code yJ2_checkBoundsBeginEnd_d044e cJ2_checkBoundsBeginEnd_d044e 3 none ∈ gt := gt_of 457 rfl rfl
theorem sta_J2_checkBoundsBeginEnd_d044e : Cond.static yJ2_checkBoundsBeginEnd_d044e ∈ gt := gt_of 456 (by decide +kernel) rfl
theorem ms_J2_96 : MS RJ2 96 yJ2_checkBoundsBeginEnd_d044e cJ2_checkBoundsBeginEnd_d044e 3 none 3 := ⟨Or.inl (gt_of 455 (by decide +kernel) rfl), sta_J2_checkBoundsBeginEnd_d044e, ini_J2, co_J2_checkBoundsBeginEnd_d044e, ⟨by decide +kernel, by decide +kernel, by decide +kernel⟩, by decide⟩
set_option maxRecDepth 100000 in
theorem co_J11_highSurrogate_5068e : Cond.code yJ11_highSurrogate_5068e cJ11_highSurrogate_5068e 1 (some .char) ∈ gt := gt_of 475 rfl rfl
theorem sta_J11_highSurrogate_5068e : Cond.static yJ11_highSurrogate_5068e ∈ gt := gt_of 474 (by decide +kernel) rfl
theorem ini_J11 : Cond.initialized RJ11 ∈ gt := gt_of 95 (by decide +kernel) rfl
theorem ms_J2_157 : MS RJ2 157 yJ11_highSurrogate_5068e cJ11_highSurrogate_5068e 1 (some .char) 1 := ⟨Or.inl (gt_of 473 (by decide +kernel) rfl), sta_J11_highSurrogate_5068e, ini_J11, co_J11_highSurrogate_5068e, ⟨by decide +kernel, by decide +kernel, by decide +kernel⟩, by decide⟩
set_option maxRecDepth 100000 in
theorem co_J11_lowSurrogate_5068e : Cond.code yJ11_lowSurrogate_5068e cJ11_lowSurrogate_5068e 1 (some .char) ∈ gt := gt_of 479 rfl rfl
theorem sta_J11_lowSurrogate_5068e : Cond.static yJ11_lowSurrogate_5068e ∈ gt := gt_of 478 (by decide +kernel) rfl
theorem ms_J2_161 : MS RJ2 161 yJ11_lowSurrogate_5068e cJ11_lowSurrogate_5068e 1 (some .char) 1 := ⟨Or.inl (gt_of 477 (by decide +kernel) rfl), sta_J11_lowSurrogate_5068e, ini_J11, co_J11_lowSurrogate_5068e, ⟨by decide +kernel, by decide +kernel, by decide +kernel⟩, by decide⟩
set_option maxRecDepth 100000 in
theorem co_J11_isValidCodePoint_9a6ad : Cond.code yJ11_isValidCodePoint_9a6ad cJ11_isValidCodePoint_9a6ad 2 (some .boolean) ∈ gt := gt_of 472 rfl rfl
theorem sta_J11_isValidCodePoint_9a6ad : Cond.static yJ11_isValidCodePoint_9a6ad ∈ gt := gt_of 471 (by decide +kernel) rfl
theorem ms_J2_164 : MS RJ2 164 yJ11_isValidCodePoint_9a6ad cJ11_isValidCodePoint_9a6ad 2 (some .boolean) 1 := ⟨Or.inl (gt_of 470 (by decide +kernel) rfl), sta_J11_isValidCodePoint_9a6ad, ini_J11, co_J11_isValidCodePoint_9a6ad, ⟨by decide +kernel, by decide +kernel, by decide +kernel⟩, by decide⟩
theorem ms_J2_183 : MS RJ2 183 yJ9_min_7cf53 cJ9_min_7cf53 2 (some .int) 2 := ⟨Or.inl (gt_of 450 (by decide +kernel) rfl), sta_J9_min_7cf53, ini_J9, co_J9_min_7cf53, ⟨by decide +kernel, by decide +kernel, by decide +kernel⟩, by decide⟩
theorem ms_J2_224 : MS RJ2 224 yJ9_max_7cf53 cJ9_max_7cf53 2 (some .int) 2 := ⟨Or.inl (gt_of 449 (by decide +kernel) rfl), sta_J9_max_7cf53, ini_J9, co_J9_max_7cf53, ⟨by decide +kernel, by decide +kernel, by decide +kernel⟩, by decide⟩
set_option maxRecDepth 100000 in
theorem co_J2_indexOfChar_4cfef : Cond.code yJ2_indexOfChar_4cfef cJ2_indexOfChar_4cfef 4 (some .int) ∈ gt := gt_of 454 rfl rfl
theorem sta_J2_indexOfChar_4cfef : Cond.static yJ2_indexOfChar_4cfef ∈ gt := gt_of 453 (by decide +kernel) rfl
theorem ms_J2_228 : MS RJ2 228 yJ2_indexOfChar_4cfef cJ2_indexOfChar_4cfef 4 (some .int) 4 := ⟨Or.inl (gt_of 452 (by decide +kernel) rfl), sta_J2_indexOfChar_4cfef, ini_J2, co_J2_indexOfChar_4cfef, ⟨by decide +kernel, by decide +kernel, by decide +kernel⟩, by decide⟩
set_option maxRecDepth 100000 in
theorem co_J2_indexOfSupplementary_4cfef : Cond.code yJ2_indexOfSupplementary_4cfef cJ2_indexOfSupplementary_4cfef 7 (some .int) ∈ gt := gt_of 469 rfl rfl
theorem sta_J2_indexOfSupplementary_4cfef : Cond.static yJ2_indexOfSupplementary_4cfef ∈ gt := gt_of 468 (by decide +kernel) rfl
theorem ms_J2_232 : MS RJ2 232 yJ2_indexOfSupplementary_4cfef cJ2_indexOfSupplementary_4cfef 7 (some .int) 4 := ⟨Or.inl (gt_of 467 (by decide +kernel) rfl), sta_J2_indexOfSupplementary_4cfef, ini_J2, co_J2_indexOfSupplementary_4cfef, ⟨by decide +kernel, by decide +kernel, by decide +kernel⟩, by decide⟩
set_option maxRecDepth 100000 in
theorem co_J0_checkBoundsBeginEnd_23922 : Cond.code yJ0_checkBoundsBeginEnd_23922 cJ0_checkBoundsBeginEnd_23922 3 none ∈ gt := gt_of 460 rfl rfl
theorem sta_J0_checkBoundsBeginEnd_23922 : Cond.static yJ0_checkBoundsBeginEnd_23922 ∈ gt := gt_of 459 (by decide +kernel) rfl
theorem ms_J2_241 : MS RJ2 241 yJ0_checkBoundsBeginEnd_23922 cJ0_checkBoundsBeginEnd_23922 3 none 3 := ⟨Or.inl (gt_of 458 (by decide +kernel) rfl), sta_J0_checkBoundsBeginEnd_23922, ini_J0, co_J0_checkBoundsBeginEnd_23922, ⟨by decide +kernel, by decide +kernel, by decide +kernel⟩, by decide⟩
set_option maxRecDepth 100000 in
theorem co_J2_indexOfCharUnsafe_4cfef : Cond.code yJ2_indexOfCharUnsafe_4cfef cJ2_indexOfCharUnsafe_4cfef 5 (some .int) ∈ gt := gt_of 466 rfl rfl
theorem sta_J2_indexOfCharUnsafe_4cfef : Cond.static yJ2_indexOfCharUnsafe_4cfef ∈ gt := gt_of 465 (by decide +kernel) rfl
theorem ms_J2_244 : MS RJ2 244 yJ2_indexOfCharUnsafe_4cfef cJ2_indexOfCharUnsafe_4cfef 5 (some .int) 4 := ⟨Or.inl (gt_of 464 (by decide +kernel) rfl), sta_J2_indexOfCharUnsafe_4cfef, ini_J2, co_J2_indexOfCharUnsafe_4cfef, ⟨by decide +kernel, by decide +kernel, by decide +kernel⟩, by decide⟩
theorem ms_J2_414 : MS RJ2 414 yJ0_checkIndex_df160 cJ0_checkIndex_df160 2 none 2 := ⟨Or.inl (gt_of 377 (by decide +kernel) rfl), sta_J0_checkIndex_df160, ini_J0, co_J0_checkIndex_df160, ⟨by decide +kernel, by decide +kernel, by decide +kernel⟩, by decide⟩
theorem ac_X8_305 : Cond.methodLink RX8 305 arraycopyName ∈ gt := gt_of 937 (by decide +kernel) rfl
theorem ac_n : Cond.native arraycopyName ∈ gt := gt_of 939 (by decide +kernel) rfl
theorem ac_s : Cond.static arraycopyName ∈ gt := gt_of 938 (by decide +kernel) rfl
theorem ac_i : Cond.initialized "java/lang/System" ∈ gt := gt_of 99 (by decide +kernel) rfl
theorem mm_X0_101 : Cond.methodLink RX0 101 Lib.Math.min.name ∈ gt := gt_of 685 (by decide +kernel) rfl
theorem mm_X0_106 : Cond.methodLink RX0 106 Lib.Math.max.name ∈ gt := gt_of 686 (by decide +kernel) rfl
theorem mm_X1_9 : Cond.methodLink RX1 9 Lib.Math.max.name ∈ gt := gt_of 690 (by decide +kernel) rfl
theorem mm_X7_22 : Cond.methodLink RX7 22 Lib.Math.max.name ∈ gt := gt_of 677 (by decide +kernel) rfl
theorem mm_J1_38 : Cond.methodLink RJ1 38 Lib.Math.min.name ∈ gt := gt_of 440 (by decide +kernel) rfl
theorem mm_J1_92 : Cond.methodLink RJ1 92 Lib.Math.max.name ∈ gt := gt_of 437 (by decide +kernel) rfl
theorem mm_J2_183 : Cond.methodLink RJ2 183 Lib.Math.min.name ∈ gt := gt_of 450 (by decide +kernel) rfl
theorem mm_J2_224 : Cond.methodLink RJ2 224 Lib.Math.max.name ∈ gt := gt_of 449 (by decide +kernel) rfl
theorem mm_max_s : Cond.static Lib.Math.max.name ∈ gt := gt_of 438 (by decide +kernel) rfl
theorem mm_max_c : Cond.code Lib.Math.max.name Lib.Math.max.code 2 (some .int) ∈ gt := gt_of 439 (by decide +kernel) rfl
theorem mm_min_s : Cond.static Lib.Math.min.name ∈ gt := gt_of 441 (by decide +kernel) rfl
theorem mm_min_c : Cond.code Lib.Math.min.name Lib.Math.min.code 2 (some .int) ∈ gt := gt_of 442 (by decide +kernel) rfl
theorem mm_i : Cond.initialized "java/lang/Math" ∈ gt := gt_of 94 (by decide +kernel) rfl
end
section
/-! constructors: printed by con.py -/
theorem va_P.ent {D : va_G} {cl : List vw_C} {ws : va_W} {H : Heap} {k a : Nat} {e e' : va_E} (h : va_P D cl ws H) (hk : ws[k]? = some (a, e)) (he : va_at D cl (a, e) H → va_at D cl (a, e') H) : va_P D cl (ws.set k (a, e')) H := by
  intro i q hq
  by_cases hi : i = k
  · subst hi
    rw [List.getElem?_set_self (List.getElem?_eq_some_iff.mp hk).1] at hq
    cases hq
    exact he (h i _ hk)
  · rw [List.getElem?_set_ne (fun z => hi z.symm)] at hq
    exact h i q hq
theorem arr_one {tys : List (ClassId × FieldType)} {D : va_G} {cl : List vw_C} {U : State} {i j : Nat} {c c' : ClassId} {ty : FieldType} (h : va_K D cl tys U) (hi : tys[i]? = some (c, ty)) (hj : tys[j]? = some (c', ty)) : c = c' := by
  have h1 := (h.2 i _ hi).2
  have h2 := (h.2 j _ hj).2
  cases ty with
  | object C =>
    obtain ⟨kA, comp, g1, g2, g3, g4⟩ := h1
    obtain ⟨kB, comp', f1, f2, f3, f4⟩ := h2
    exact Option.some.inj (g4.symm.trans f4)
  | _ => exact Option.some.inj (Eq.trans (Eq.symm h1) h2)
section NEWS
variable {p : Program} {l : Launch} {e : Env} {R : Room} {s : State} {m : MethodId} {args : Array Value} {below : List Frame} {meth : Method} {c : Code} {H : Heap} {locs : List Loc} {cells slots : Nat} {Q : State → Prop}
variable {cc : ByteArray} {pc : Nat} {ls : Array Slot} {rest : List Value} {D : va_G} {cl : List vw_C} {A : Nat → Prop} {cy : Nat → ClassId} {ws : va_W} {H0 : Heap}
theorem n_newi (hexec : p.tables.exec = Jvm.exec) (hb : c.code = cc) (harr : (Cond.arrayClass .int).before args s = true) (hK : va_K D cl (tysO cy) s) (hP : va_P D cl ws H) (hD : va_D A ws) (hS : va_S A H0 H locs) (hA : ∀ q, H0.size ≤ q → A q)
    {n : Int32} {N' : Nat} (hn : ¬ n < 0) (hN : n.toNatClampNeg = N') (hbytes : N' * componentBytes .int ≤ 536870912) (hcells : cells + 1 ≤ R.cells) (hslots : slots + N' ≤ R.slots) (hdg : decode cc pc = .ok (.newarray .int, 2))
    (kk : ∀ (q : Nat) (H1 : Heap), va_P D cl (ws ++ [(q, .inl (cy 0, N', .inl fun _ => 0))]) H1 → va_D A (ws ++ [(q, .inl (cy 0, N', .inl fun _ => 0))]) → va_S A H0 H1 locs →
      W p l e R s m args below meth c H1 locs (cells + 1) (slots + N') Q (F0 m (pc + 2) ls (.ref q :: rest))) : W p l e R s m args below meth c H locs cells slots Q (F0 m pc ls (.int n :: rest)) := by
  refine va_newa (atype := .int) hexec hb harr rfl hK hP hD hS hA (a0 := (N', .inl fun _ => 0)) (fun cA => rfl) hn hN hbytes hcells hslots hdg (fun q cA H1 hK1 hP1 hD1 hS1 => ?_)
  have e9 : cA = cy 0 := arr_one (i := 4) (j := 0) hK1 rfl rfl
  subst e9
  exact kk q H1 hP1 hD1 hS1
theorem n_newz (hexec : p.tables.exec = Jvm.exec) (hb : c.code = cc) (harr : (Cond.arrayClass .boolean).before args s = true) (hK : va_K D cl (tysO cy) s) (hP : va_P D cl ws H) (hD : va_D A ws) (hS : va_S A H0 H locs) (hA : ∀ q, H0.size ≤ q → A q)
    {n : Int32} {N' : Nat} (hn : ¬ n < 0) (hN : n.toNatClampNeg = N') (hbytes : N' * componentBytes .boolean ≤ 536870912) (hcells : cells + 1 ≤ R.cells) (hslots : slots + N' ≤ R.slots) (hdg : decode cc pc = .ok (.newarray .boolean, 2))
    (kk : ∀ (q : Nat) (H1 : Heap), va_P D cl (ws ++ [(q, .inl (cy 1, N', .inl fun _ => 0))]) H1 → va_D A (ws ++ [(q, .inl (cy 1, N', .inl fun _ => 0))]) → va_S A H0 H1 locs →
      W p l e R s m args below meth c H1 locs (cells + 1) (slots + N') Q (F0 m (pc + 2) ls (.ref q :: rest))) : W p l e R s m args below meth c H locs cells slots Q (F0 m pc ls (.int n :: rest)) := by
  refine va_newa (atype := .boolean) hexec hb harr rfl hK hP hD hS hA (a0 := (N', .inl fun _ => 0)) (fun cA => rfl) hn hN hbytes hcells hslots hdg (fun q cA H1 hK1 hP1 hD1 hS1 => ?_)
  have e9 : cA = cy 1 := arr_one (i := 4) (j := 1) hK1 rfl rfl
  subst e9
  exact kk q H1 hP1 hD1 hS1
theorem n_newq (hexec : p.tables.exec = Jvm.exec) (hb : c.code = cc) {own C : String} {index k : Nat} (hown : s.vm.findClass own = some m.cls) (hclink : (Cond.classLink own index C).before args s = true) (hover : va_AO C s) (hK : va_K D cl (tysO cy) s) (hk : (tysO cy)[k]? = some (cy k, .object C)) (hP : va_P D cl ws H) (hD : va_D A ws) (hS : va_S A H0 H locs) (hA : ∀ q, H0.size ≤ q → A q)
    {n : Int32} {N' : Nat} (hn : ¬ n < 0) (hN : n.toNatClampNeg = N') (hbytes : N' * 4 ≤ 536870912) (hcells : cells + 1 ≤ R.cells) (hslots : slots + N' ≤ R.slots) (hdg : decode cc pc = .ok (.anewarray index, 3))
    (kk : ∀ (q : Nat) (H1 : Heap), va_P D cl (ws ++ [(q, .inl (cy k, N', .inr (.inr (.inr (.inr (fun _ => none))))))]) H1 → va_D A (ws ++ [(q, .inl (cy k, N', .inr (.inr (.inr (.inr (fun _ => none))))))]) → va_S A H0 H1 locs →
      W p l e R s m args below meth c H1 locs (cells + 1) (slots + N') Q (F0 m (pc + 3) ls (.ref q :: rest))) : W p l e R s m args below meth c H locs cells slots Q (F0 m pc ls (.int n :: rest)) := by
  refine va_newq hexec hb hown hclink hover hK hP hD hS hA hn hN hbytes hcells hslots hdg (fun q cA H1 hK1 hP1 hD1 hS1 => ?_)
  have e9 : cA = cy k := arr_one (i := 4) (j := k) hK1 rfl (by rw [List.getElem?_append_left (List.getElem?_eq_some_iff.mp hk).1]; exact hk)
  subst e9
  exact kk q H1 hP1 hD1 hS1
end NEWS
theorem AD.ofD {L : List LD} {X : XT} {M : Mem} (h : va_D X.2.2.2.2 (wsO L X M)) : AD L X := by
  refine ⟨fun i j hi hj e => ?_, fun i hi => ?_⟩
  · exact h.1 i j _ _ (wsO_at (List.getElem?_eq_getElem hi)) (wsO_at (List.getElem?_eq_getElem hj)) e
  · exact h.2 i _ (wsO_at (List.getElem?_eq_getElem hi))
theorem hts_code {y : MethodName} {b : ByteArray} {n : Nat} {r : Option FieldType} {args : Array Value} {s : State} (h : ∀ w ∈ (Cond.code y b n r :: gt), w.before args s = true) : ∀ w ∈ gt, w.before args s = true := fun w hw => h w (List.mem_cons_of_mem _ hw)
theorem dX5_init_0 : decode cX5_init 0 = .ok (.aload_n 0, 1) := by decide +kernel
theorem dX5_init_1 : decode cX5_init 1 = .ok (.invokespecial 3, 3) := by decide +kernel
theorem dX5_init_4 : decode cX5_init 4 = .ok (.aload_n 0, 1) := by decide +kernel
theorem dX5_init_5 : decode cX5_init 5 = .ok (.bipush 6, 2) := by decide +kernel
theorem dX5_init_7 : decode cX5_init 7 = .ok (.newarray .int, 2) := by decide +kernel
theorem dX5_init_9 : decode cX5_init 9 = .ok (.dup, 1) := by decide +kernel
theorem dX5_init_10 : decode cX5_init 10 = .ok (.iconst 0, 1) := by decide +kernel
theorem dX5_init_11 : decode cX5_init 11 = .ok (.bipush 18, 2) := by decide +kernel
theorem dX5_init_13 : decode cX5_init 13 = .ok (.iastore, 1) := by decide +kernel
theorem dX5_init_14 : decode cX5_init 14 = .ok (.dup, 1) := by decide +kernel
theorem dX5_init_15 : decode cX5_init 15 = .ok (.iconst 1, 1) := by decide +kernel
theorem dX5_init_16 : decode cX5_init 16 = .ok (.iconst 0, 1) := by decide +kernel
theorem dX5_init_17 : decode cX5_init 17 = .ok (.iastore, 1) := by decide +kernel
theorem dX5_init_18 : decode cX5_init 18 = .ok (.dup, 1) := by decide +kernel
theorem dX5_init_19 : decode cX5_init 19 = .ok (.iconst 2, 1) := by decide +kernel
theorem dX5_init_20 : decode cX5_init 20 = .ok (.iconst 0, 1) := by decide +kernel
theorem dX5_init_21 : decode cX5_init 21 = .ok (.iastore, 1) := by decide +kernel
theorem dX5_init_22 : decode cX5_init 22 = .ok (.dup, 1) := by decide +kernel
theorem dX5_init_23 : decode cX5_init 23 = .ok (.iconst 3, 1) := by decide +kernel
theorem dX5_init_24 : decode cX5_init 24 = .ok (.iconst 1, 1) := by decide +kernel
theorem dX5_init_25 : decode cX5_init 25 = .ok (.iastore, 1) := by decide +kernel
theorem dX5_init_26 : decode cX5_init 26 = .ok (.dup, 1) := by decide +kernel
theorem dX5_init_27 : decode cX5_init 27 = .ok (.iconst 4, 1) := by decide +kernel
theorem dX5_init_28 : decode cX5_init 28 = .ok (.iconst 0, 1) := by decide +kernel
theorem dX5_init_29 : decode cX5_init 29 = .ok (.iastore, 1) := by decide +kernel
theorem dX5_init_30 : decode cX5_init 30 = .ok (.dup, 1) := by decide +kernel
theorem dX5_init_31 : decode cX5_init 31 = .ok (.iconst 5, 1) := by decide +kernel
theorem dX5_init_32 : decode cX5_init 32 = .ok (.iconst 0, 1) := by decide +kernel
theorem dX5_init_33 : decode cX5_init 33 = .ok (.iastore, 1) := by decide +kernel
theorem dX5_init_34 : decode cX5_init 34 = .ok (.putfield 9, 3) := by decide +kernel
theorem dX5_init_37 : decode cX5_init 37 = .ok (.aload_n 0, 1) := by decide +kernel
theorem dX5_init_38 : decode cX5_init 38 = .ok (.bipush 6, 2) := by decide +kernel
theorem dX5_init_40 : decode cX5_init 40 = .ok (.newarray .int, 2) := by decide +kernel
theorem dX5_init_42 : decode cX5_init 42 = .ok (.putfield 15, 3) := by decide +kernel
theorem dX5_init_45 : decode cX5_init 45 = .ok (.aload_n 0, 1) := by decide +kernel
theorem dX5_init_46 : decode cX5_init 46 = .ok (.bipush 6, 2) := by decide +kernel
theorem dX5_init_48 : decode cX5_init 48 = .ok (.newarray .int, 2) := by decide +kernel
theorem dX5_init_50 : decode cX5_init 50 = .ok (.putfield 18, 3) := by decide +kernel
theorem dX5_init_53 : decode cX5_init 53 = .ok (.aload_n 0, 1) := by decide +kernel
theorem dX5_init_54 : decode cX5_init 54 = .ok (.bipush 6, 2) := by decide +kernel
theorem dX5_init_56 : decode cX5_init 56 = .ok (.newarray .int, 2) := by decide +kernel
theorem dX5_init_58 : decode cX5_init 58 = .ok (.putfield 21, 3) := by decide +kernel
theorem dX5_init_61 : decode cX5_init 61 = .ok (.aload_n 0, 1) := by decide +kernel
theorem dX5_init_62 : decode cX5_init 62 = .ok (.bipush 6, 2) := by decide +kernel
theorem dX5_init_64 : decode cX5_init 64 = .ok (.newarray .int, 2) := by decide +kernel
theorem dX5_init_66 : decode cX5_init 66 = .ok (.putfield 24, 3) := by decide +kernel
theorem dX5_init_69 : decode cX5_init 69 = .ok (.aload_n 0, 1) := by decide +kernel
theorem dX5_init_70 : decode cX5_init 70 = .ok (.iconst 0, 1) := by decide +kernel
theorem dX5_init_71 : decode cX5_init 71 = .ok (.putfield 27, 3) := by decide +kernel
theorem dX5_init_74 : decode cX5_init 74 = .ok (.aload_n 0, 1) := by decide +kernel
theorem dX5_init_75 : decode cX5_init 75 = .ok (.iconst 0, 1) := by decide +kernel
theorem dX5_init_76 : decode cX5_init 76 = .ok (.putfield 31, 3) := by decide +kernel
theorem dX5_init_79 : decode cX5_init 79 = .ok (.return_, 1) := by decide +kernel
set_option maxHeartbeats 8000000 in
set_option maxRecDepth 100000 in
theorem k_X5_init (l : Launch) (dC : Nat → ClassId) (dI : Nat → Nat → Nat) (cy : Nat → ClassId) (h0 sz : Nat) : Met l yX5_init (.code yX5_init cX5_init 1 none :: gt) ({ frames := 1, cells := 5, slots := 30, locals := 12 }) (va_Pc [.ref h0] (fun U => U.heap.size = sz ∧ va_P (dC, dI) vwCl [(h0, .inr (4, [.null, .null, .null, .null, .null, .int 0, .int 0]))] U.heap ∧ va_K (dC, dI) vwCl (tysO cy) U ∧ va_D (fun _ => True) [(h0, .inr (4, [.null, .null, .null, .null, .null, .int 0, .int 0]))] ∧ ∀ w ∈ nw, va_Nw w U)) (va_Qv (fun _ : Unit => True) (fun _ t => ∃ (q1 q2 q3 q4 q5 : Nat), va_P (dC, dI) vwCl [(h0, .inr (4, [.ref q1, .ref q2, .ref q3, .ref q4, .ref q5, .int 0, .int 0])), (q1, .inl (cy 0, 6, .inl (upd (upd (upd (upd (upd (upd (fun _ => 0) (0 : Int32).toNatClampNeg 18) (1 : Int32).toNatClampNeg 0) (2 : Int32).toNatClampNeg 0) (3 : Int32).toNatClampNeg 1) (4 : Int32).toNatClampNeg 0) (5 : Int32).toNatClampNeg 0))), (q2, .inl (cy 0, 6, .inl (fun _ => 0))), (q3, .inl (cy 0, 6, .inl (fun _ => 0))), (q4, .inl (cy 0, 6, .inl (fun _ => 0))), (q5, .inl (cy 0, 6, .inl (fun _ => 0)))] t.heap ∧ va_D (va_A [(h0, .inr (4, [.null, .null, .null, .null, .null, .int 0, .int 0]))] sz) [(h0, .inr (4, [.ref q1, .ref q2, .ref q3, .ref q4, .ref q5, .int 0, .int 0])), (q1, .inl (cy 0, 6, .inl (upd (upd (upd (upd (upd (upd (fun _ => 0) (0 : Int32).toNatClampNeg 18) (1 : Int32).toNatClampNeg 0) (2 : Int32).toNatClampNeg 0) (3 : Int32).toNatClampNeg 1) (4 : Int32).toNatClampNeg 0) (5 : Int32).toNatClampNeg 0))), (q2, .inl (cy 0, 6, .inl (fun _ => 0))), (q3, .inl (cy 0, 6, .inl (fun _ => 0))), (q4, .inl (cy 0, 6, .inl (fun _ => 0))), (q5, .inl (cy 0, 6, .inl (fun _ => 0)))]) (va_A [(h0, .inr (4, [.null, .null, .null, .null, .null, .int 0, .int 0]))] sz)) 5 30 (va_A [(h0, .inr (4, [.null, .null, .null, .null, .null, .int 0, .int 0]))] sz) := by
  refine Met.ofW (cc := cX5_init) (maxL := 1) (ret := none) (by decide) rfl ?_
  intro p e s m args below meth c s₁ B hml hv
  obtain ⟨rfl, hsz, hP, hK, hD0, hNw⟩ := hv
  have hx := B.exec
  have hb := B.bytes
  have hr := B.returns
  have hts := hts_code (atoms_spec (ws := .code yX5_init cX5_init 1 none :: gt) B.pre)
  have hown : s.vm.findClass RX5 = some m.cls := findClass_of_methodNamed B.named
  have hlocks := B.notSynchronized
  have hin : meth.name = "<init>" := (name_of_methodNamed B.named B.method).1
  subst hsz
  have hD := hD0.self (sz := s.heap.size)
  generalize hAe : va_A [(h0, .inr (4, [.null, .null, .null, .null, .null, .int 0, .int 0]))] s.heap.size = A at hD ⊢
  have hA : ∀ q : Nat, s.heap.size ≤ q → A q := fun q h => by rw [← hAe]; exact Or.inr h
  have hS : va_S A s.heap s.heap [] := va_S.rf
  have hP : va_P (dC, dI) vwCl [(h0, .inr (4, [.null, .null, .null, .null, .null, .int 0, .int 0]))] s.heap := hP
  have hl := lv_entry ([.ref h0]) (n := 1) (Nat.le_of_ble_eq_true rfl)
  rw [lg_entry_eq]
  generalize (lg_sl ([.ref h0]) ++ List.replicate (1 - (lg_sl ([.ref h0])).length) Slot.unset).toArray = ls at hl ⊢
  have hl : lv_has ls 1 [(0, .ref h0)] := hl
  refine lv_aload_n hx hb dX5_init_0 rfl (lv_at hl 0 rfl) ?_
  refine W.objInit hx hb hown (hts (.methodLink RX5 3 objectInit) (gt_of 113 (by decide +kernel) rfl)) (hts (.instanceMethod objectInit) (gt_of 106 (by decide +kernel) rfl)) (hts _ (gt_of 107 (by decide +kernel) rfl)) rfl (by rw [hml]; exact hl.1) rfl dX5_init_1 (Nat.le_of_ble_eq_true rfl) (Nat.le_of_ble_eq_true rfl) ?_
  refine W.eq (g2 := F0 m 4 ls []) rfl ?_
  refine lv_aload_n hx hb dX5_init_4 rfl (lv_at hl 0 rfl) ?_
  refine lv_bipush (v := 6) hx hb dX5_init_5 bp_6 ?_
  refine n_newi hx hb (hts _ (gt_of 150 (by decide +kernel) rfl)) hK hP hD hS hA (N' := 6) (by decide) (by decide) (Nat.le_of_ble_eq_true rfl) (Nat.le_of_ble_eq_true rfl) (Nat.le_of_ble_eq_true rfl) dX5_init_7 (fun q1 H hP hD hS => ?_)
  have hP : va_P (dC, dI) vwCl [(h0, .inr (4, [.null, .null, .null, .null, .null, .int 0, .int 0])), (q1, .inl (cy 0, 6, .inl (fun _ => 0)))] H := hP
  have hD : va_D A [(h0, .inr (4, [.null, .null, .null, .null, .null, .int 0, .int 0])), (q1, .inl (cy 0, 6, .inl (fun _ => 0)))] := hD
  refine W.widen (k := 1) (n := 6) (Nat.le_of_ble_eq_true rfl) (Nat.le_of_ble_eq_true rfl) ?_
  refine lv_dup hx hb dX5_init_9 rfl ?_
  refine lv_iconst (v := 0) hx hb dX5_init_10 ic_0 ?_
  refine lv_bipush (v := 18) hx hb dX5_init_11 bp_18 ?_
  refine va_iast hx hb hK hP hD hS 1 0 rfl rfl (by unfold vp_in; decide) dX5_init_13 (fun H locs hP hD hS => ?_)
  have hP : va_P (dC, dI) vwCl [(h0, .inr (4, [.null, .null, .null, .null, .null, .int 0, .int 0])), (q1, .inl (cy 0, 6, .inl (upd (fun _ => 0) (0 : Int32).toNatClampNeg 18)))] H := hP
  have hD : va_D A [(h0, .inr (4, [.null, .null, .null, .null, .null, .int 0, .int 0])), (q1, .inl (cy 0, 6, .inl (upd (fun _ => 0) (0 : Int32).toNatClampNeg 18)))] := hD
  refine lv_dup hx hb dX5_init_14 rfl ?_
  refine lv_iconst (v := 1) hx hb dX5_init_15 ic_1 ?_
  refine lv_iconst (v := 0) hx hb dX5_init_16 ic_0 ?_
  refine va_iast hx hb hK hP hD hS 1 0 rfl rfl (by unfold vp_in; decide) dX5_init_17 (fun H locs hP hD hS => ?_)
  have hP : va_P (dC, dI) vwCl [(h0, .inr (4, [.null, .null, .null, .null, .null, .int 0, .int 0])), (q1, .inl (cy 0, 6, .inl (upd (upd (fun _ => 0) (0 : Int32).toNatClampNeg 18) (1 : Int32).toNatClampNeg 0)))] H := hP
  have hD : va_D A [(h0, .inr (4, [.null, .null, .null, .null, .null, .int 0, .int 0])), (q1, .inl (cy 0, 6, .inl (upd (upd (fun _ => 0) (0 : Int32).toNatClampNeg 18) (1 : Int32).toNatClampNeg 0)))] := hD
  refine lv_dup hx hb dX5_init_18 rfl ?_
  refine lv_iconst (v := 2) hx hb dX5_init_19 ic_2 ?_
  refine lv_iconst (v := 0) hx hb dX5_init_20 ic_0 ?_
  refine va_iast hx hb hK hP hD hS 1 0 rfl rfl (by unfold vp_in; decide) dX5_init_21 (fun H locs hP hD hS => ?_)
  have hP : va_P (dC, dI) vwCl [(h0, .inr (4, [.null, .null, .null, .null, .null, .int 0, .int 0])), (q1, .inl (cy 0, 6, .inl (upd (upd (upd (fun _ => 0) (0 : Int32).toNatClampNeg 18) (1 : Int32).toNatClampNeg 0) (2 : Int32).toNatClampNeg 0)))] H := hP
  have hD : va_D A [(h0, .inr (4, [.null, .null, .null, .null, .null, .int 0, .int 0])), (q1, .inl (cy 0, 6, .inl (upd (upd (upd (fun _ => 0) (0 : Int32).toNatClampNeg 18) (1 : Int32).toNatClampNeg 0) (2 : Int32).toNatClampNeg 0)))] := hD
  refine lv_dup hx hb dX5_init_22 rfl ?_
  refine lv_iconst (v := 3) hx hb dX5_init_23 ic_3 ?_
  refine lv_iconst (v := 1) hx hb dX5_init_24 ic_1 ?_
  refine va_iast hx hb hK hP hD hS 1 0 rfl rfl (by unfold vp_in; decide) dX5_init_25 (fun H locs hP hD hS => ?_)
  have hP : va_P (dC, dI) vwCl [(h0, .inr (4, [.null, .null, .null, .null, .null, .int 0, .int 0])), (q1, .inl (cy 0, 6, .inl (upd (upd (upd (upd (fun _ => 0) (0 : Int32).toNatClampNeg 18) (1 : Int32).toNatClampNeg 0) (2 : Int32).toNatClampNeg 0) (3 : Int32).toNatClampNeg 1)))] H := hP
  have hD : va_D A [(h0, .inr (4, [.null, .null, .null, .null, .null, .int 0, .int 0])), (q1, .inl (cy 0, 6, .inl (upd (upd (upd (upd (fun _ => 0) (0 : Int32).toNatClampNeg 18) (1 : Int32).toNatClampNeg 0) (2 : Int32).toNatClampNeg 0) (3 : Int32).toNatClampNeg 1)))] := hD
  refine lv_dup hx hb dX5_init_26 rfl ?_
  refine lv_iconst (v := 4) hx hb dX5_init_27 ic_4 ?_
  refine lv_iconst (v := 0) hx hb dX5_init_28 ic_0 ?_
  refine va_iast hx hb hK hP hD hS 1 0 rfl rfl (by unfold vp_in; decide) dX5_init_29 (fun H locs hP hD hS => ?_)
  have hP : va_P (dC, dI) vwCl [(h0, .inr (4, [.null, .null, .null, .null, .null, .int 0, .int 0])), (q1, .inl (cy 0, 6, .inl (upd (upd (upd (upd (upd (fun _ => 0) (0 : Int32).toNatClampNeg 18) (1 : Int32).toNatClampNeg 0) (2 : Int32).toNatClampNeg 0) (3 : Int32).toNatClampNeg 1) (4 : Int32).toNatClampNeg 0)))] H := hP
  have hD : va_D A [(h0, .inr (4, [.null, .null, .null, .null, .null, .int 0, .int 0])), (q1, .inl (cy 0, 6, .inl (upd (upd (upd (upd (upd (fun _ => 0) (0 : Int32).toNatClampNeg 18) (1 : Int32).toNatClampNeg 0) (2 : Int32).toNatClampNeg 0) (3 : Int32).toNatClampNeg 1) (4 : Int32).toNatClampNeg 0)))] := hD
  refine lv_dup hx hb dX5_init_30 rfl ?_
  refine lv_iconst (v := 5) hx hb dX5_init_31 ic_5 ?_
  refine lv_iconst (v := 0) hx hb dX5_init_32 ic_0 ?_
  refine va_iast hx hb hK hP hD hS 1 0 rfl rfl (by unfold vp_in; decide) dX5_init_33 (fun H locs hP hD hS => ?_)
  have hP : va_P (dC, dI) vwCl [(h0, .inr (4, [.null, .null, .null, .null, .null, .int 0, .int 0])), (q1, .inl (cy 0, 6, .inl (upd (upd (upd (upd (upd (upd (fun _ => 0) (0 : Int32).toNatClampNeg 18) (1 : Int32).toNatClampNeg 0) (2 : Int32).toNatClampNeg 0) (3 : Int32).toNatClampNeg 1) (4 : Int32).toNatClampNeg 0) (5 : Int32).toNatClampNeg 0)))] H := hP
  have hD : va_D A [(h0, .inr (4, [.null, .null, .null, .null, .null, .int 0, .int 0])), (q1, .inl (cy 0, 6, .inl (upd (upd (upd (upd (upd (upd (fun _ => 0) (0 : Int32).toNatClampNeg 18) (1 : Int32).toNatClampNeg 0) (2 : Int32).toNatClampNeg 0) (3 : Int32).toNatClampNeg 1) (4 : Int32).toNatClampNeg 0) (5 : Int32).toNatClampNeg 0)))] := hD
  refine va_putF (D := (dC, dI)) (ci := 4) (v := .ref q1) (ty := (.array .int)) (C := RX5) (T := TX5) (N := 7) hx hb hts gc_X5 tyX5 tyX5_ok nmX5 hown hK hP hD hS 0 rfl rfl 0 (by decide) (hts (.fieldLink RX5 9 "BeforeItGoes$Site" "dials" "[I") (gt_of 114 (by decide +kernel) rfl)) (fun _ h9 => h9) rfl hin rfl (by decide +kernel) rfl rfl (Nat.le_of_ble_eq_true rfl) dX5_init_34 (fun H locs hP hD hS => ?_)
  have hP : va_P (dC, dI) vwCl [(h0, .inr (4, [.ref q1, .null, .null, .null, .null, .int 0, .int 0])), (q1, .inl (cy 0, 6, .inl (upd (upd (upd (upd (upd (upd (fun _ => 0) (0 : Int32).toNatClampNeg 18) (1 : Int32).toNatClampNeg 0) (2 : Int32).toNatClampNeg 0) (3 : Int32).toNatClampNeg 1) (4 : Int32).toNatClampNeg 0) (5 : Int32).toNatClampNeg 0)))] H := hP
  have hD : va_D A [(h0, .inr (4, [.ref q1, .null, .null, .null, .null, .int 0, .int 0])), (q1, .inl (cy 0, 6, .inl (upd (upd (upd (upd (upd (upd (fun _ => 0) (0 : Int32).toNatClampNeg 18) (1 : Int32).toNatClampNeg 0) (2 : Int32).toNatClampNeg 0) (3 : Int32).toNatClampNeg 1) (4 : Int32).toNatClampNeg 0) (5 : Int32).toNatClampNeg 0)))] := hD
  refine lv_aload_n hx hb dX5_init_37 rfl (lv_at hl 0 rfl) ?_
  refine lv_bipush (v := 6) hx hb dX5_init_38 bp_6 ?_
  refine n_newi hx hb (hts _ (gt_of 150 (by decide +kernel) rfl)) hK hP hD hS hA (N' := 6) (by decide) (by decide) (Nat.le_of_ble_eq_true rfl) (Nat.le_of_ble_eq_true rfl) (Nat.le_of_ble_eq_true rfl) dX5_init_40 (fun q2 H hP hD hS => ?_)
  have hP : va_P (dC, dI) vwCl [(h0, .inr (4, [.ref q1, .null, .null, .null, .null, .int 0, .int 0])), (q1, .inl (cy 0, 6, .inl (upd (upd (upd (upd (upd (upd (fun _ => 0) (0 : Int32).toNatClampNeg 18) (1 : Int32).toNatClampNeg 0) (2 : Int32).toNatClampNeg 0) (3 : Int32).toNatClampNeg 1) (4 : Int32).toNatClampNeg 0) (5 : Int32).toNatClampNeg 0))), (q2, .inl (cy 0, 6, .inl (fun _ => 0)))] H := hP
  have hD : va_D A [(h0, .inr (4, [.ref q1, .null, .null, .null, .null, .int 0, .int 0])), (q1, .inl (cy 0, 6, .inl (upd (upd (upd (upd (upd (upd (fun _ => 0) (0 : Int32).toNatClampNeg 18) (1 : Int32).toNatClampNeg 0) (2 : Int32).toNatClampNeg 0) (3 : Int32).toNatClampNeg 1) (4 : Int32).toNatClampNeg 0) (5 : Int32).toNatClampNeg 0))), (q2, .inl (cy 0, 6, .inl (fun _ => 0)))] := hD
  refine W.widen (k := 2) (n := 12) (Nat.le_of_ble_eq_true rfl) (Nat.le_of_ble_eq_true rfl) ?_
  refine va_putF (D := (dC, dI)) (ci := 4) (v := .ref q2) (ty := (.array .int)) (C := RX5) (T := TX5) (N := 7) hx hb hts gc_X5 tyX5 tyX5_ok nmX5 hown hK hP hD hS 0 rfl rfl 1 (by decide) (hts (.fieldLink RX5 15 "BeforeItGoes$Site" "kinds" "[I") (gt_of 117 (by decide +kernel) rfl)) (fun _ h9 => h9) rfl hin rfl (by decide +kernel) rfl rfl (Nat.le_of_ble_eq_true rfl) dX5_init_42 (fun H locs hP hD hS => ?_)
  have hP : va_P (dC, dI) vwCl [(h0, .inr (4, [.ref q1, .ref q2, .null, .null, .null, .int 0, .int 0])), (q1, .inl (cy 0, 6, .inl (upd (upd (upd (upd (upd (upd (fun _ => 0) (0 : Int32).toNatClampNeg 18) (1 : Int32).toNatClampNeg 0) (2 : Int32).toNatClampNeg 0) (3 : Int32).toNatClampNeg 1) (4 : Int32).toNatClampNeg 0) (5 : Int32).toNatClampNeg 0))), (q2, .inl (cy 0, 6, .inl (fun _ => 0)))] H := hP
  have hD : va_D A [(h0, .inr (4, [.ref q1, .ref q2, .null, .null, .null, .int 0, .int 0])), (q1, .inl (cy 0, 6, .inl (upd (upd (upd (upd (upd (upd (fun _ => 0) (0 : Int32).toNatClampNeg 18) (1 : Int32).toNatClampNeg 0) (2 : Int32).toNatClampNeg 0) (3 : Int32).toNatClampNeg 1) (4 : Int32).toNatClampNeg 0) (5 : Int32).toNatClampNeg 0))), (q2, .inl (cy 0, 6, .inl (fun _ => 0)))] := hD
  refine lv_aload_n hx hb dX5_init_45 rfl (lv_at hl 0 rfl) ?_
  refine lv_bipush (v := 6) hx hb dX5_init_46 bp_6 ?_
  refine n_newi hx hb (hts _ (gt_of 150 (by decide +kernel) rfl)) hK hP hD hS hA (N' := 6) (by decide) (by decide) (Nat.le_of_ble_eq_true rfl) (Nat.le_of_ble_eq_true rfl) (Nat.le_of_ble_eq_true rfl) dX5_init_48 (fun q3 H hP hD hS => ?_)
  have hP : va_P (dC, dI) vwCl [(h0, .inr (4, [.ref q1, .ref q2, .null, .null, .null, .int 0, .int 0])), (q1, .inl (cy 0, 6, .inl (upd (upd (upd (upd (upd (upd (fun _ => 0) (0 : Int32).toNatClampNeg 18) (1 : Int32).toNatClampNeg 0) (2 : Int32).toNatClampNeg 0) (3 : Int32).toNatClampNeg 1) (4 : Int32).toNatClampNeg 0) (5 : Int32).toNatClampNeg 0))), (q2, .inl (cy 0, 6, .inl (fun _ => 0))), (q3, .inl (cy 0, 6, .inl (fun _ => 0)))] H := hP
  have hD : va_D A [(h0, .inr (4, [.ref q1, .ref q2, .null, .null, .null, .int 0, .int 0])), (q1, .inl (cy 0, 6, .inl (upd (upd (upd (upd (upd (upd (fun _ => 0) (0 : Int32).toNatClampNeg 18) (1 : Int32).toNatClampNeg 0) (2 : Int32).toNatClampNeg 0) (3 : Int32).toNatClampNeg 1) (4 : Int32).toNatClampNeg 0) (5 : Int32).toNatClampNeg 0))), (q2, .inl (cy 0, 6, .inl (fun _ => 0))), (q3, .inl (cy 0, 6, .inl (fun _ => 0)))] := hD
  refine W.widen (k := 3) (n := 18) (Nat.le_of_ble_eq_true rfl) (Nat.le_of_ble_eq_true rfl) ?_
  refine va_putF (D := (dC, dI)) (ci := 4) (v := .ref q3) (ty := (.array .int)) (C := RX5) (T := TX5) (N := 7) hx hb hts gc_X5 tyX5 tyX5_ok nmX5 hown hK hP hD hS 0 rfl rfl 2 (by decide) (hts (.fieldLink RX5 18 "BeforeItGoes$Site" "numbers" "[I") (gt_of 120 (by decide +kernel) rfl)) (fun _ h9 => h9) rfl hin rfl (by decide +kernel) rfl rfl (Nat.le_of_ble_eq_true rfl) dX5_init_50 (fun H locs hP hD hS => ?_)
  have hP : va_P (dC, dI) vwCl [(h0, .inr (4, [.ref q1, .ref q2, .ref q3, .null, .null, .int 0, .int 0])), (q1, .inl (cy 0, 6, .inl (upd (upd (upd (upd (upd (upd (fun _ => 0) (0 : Int32).toNatClampNeg 18) (1 : Int32).toNatClampNeg 0) (2 : Int32).toNatClampNeg 0) (3 : Int32).toNatClampNeg 1) (4 : Int32).toNatClampNeg 0) (5 : Int32).toNatClampNeg 0))), (q2, .inl (cy 0, 6, .inl (fun _ => 0))), (q3, .inl (cy 0, 6, .inl (fun _ => 0)))] H := hP
  have hD : va_D A [(h0, .inr (4, [.ref q1, .ref q2, .ref q3, .null, .null, .int 0, .int 0])), (q1, .inl (cy 0, 6, .inl (upd (upd (upd (upd (upd (upd (fun _ => 0) (0 : Int32).toNatClampNeg 18) (1 : Int32).toNatClampNeg 0) (2 : Int32).toNatClampNeg 0) (3 : Int32).toNatClampNeg 1) (4 : Int32).toNatClampNeg 0) (5 : Int32).toNatClampNeg 0))), (q2, .inl (cy 0, 6, .inl (fun _ => 0))), (q3, .inl (cy 0, 6, .inl (fun _ => 0)))] := hD
  refine lv_aload_n hx hb dX5_init_53 rfl (lv_at hl 0 rfl) ?_
  refine lv_bipush (v := 6) hx hb dX5_init_54 bp_6 ?_
  refine n_newi hx hb (hts _ (gt_of 150 (by decide +kernel) rfl)) hK hP hD hS hA (N' := 6) (by decide) (by decide) (Nat.le_of_ble_eq_true rfl) (Nat.le_of_ble_eq_true rfl) (Nat.le_of_ble_eq_true rfl) dX5_init_56 (fun q4 H hP hD hS => ?_)
  have hP : va_P (dC, dI) vwCl [(h0, .inr (4, [.ref q1, .ref q2, .ref q3, .null, .null, .int 0, .int 0])), (q1, .inl (cy 0, 6, .inl (upd (upd (upd (upd (upd (upd (fun _ => 0) (0 : Int32).toNatClampNeg 18) (1 : Int32).toNatClampNeg 0) (2 : Int32).toNatClampNeg 0) (3 : Int32).toNatClampNeg 1) (4 : Int32).toNatClampNeg 0) (5 : Int32).toNatClampNeg 0))), (q2, .inl (cy 0, 6, .inl (fun _ => 0))), (q3, .inl (cy 0, 6, .inl (fun _ => 0))), (q4, .inl (cy 0, 6, .inl (fun _ => 0)))] H := hP
  have hD : va_D A [(h0, .inr (4, [.ref q1, .ref q2, .ref q3, .null, .null, .int 0, .int 0])), (q1, .inl (cy 0, 6, .inl (upd (upd (upd (upd (upd (upd (fun _ => 0) (0 : Int32).toNatClampNeg 18) (1 : Int32).toNatClampNeg 0) (2 : Int32).toNatClampNeg 0) (3 : Int32).toNatClampNeg 1) (4 : Int32).toNatClampNeg 0) (5 : Int32).toNatClampNeg 0))), (q2, .inl (cy 0, 6, .inl (fun _ => 0))), (q3, .inl (cy 0, 6, .inl (fun _ => 0))), (q4, .inl (cy 0, 6, .inl (fun _ => 0)))] := hD
  refine W.widen (k := 4) (n := 24) (Nat.le_of_ble_eq_true rfl) (Nat.le_of_ble_eq_true rfl) ?_
  refine va_putF (D := (dC, dI)) (ci := 4) (v := .ref q4) (ty := (.array .int)) (C := RX5) (T := TX5) (N := 7) hx hb hts gc_X5 tyX5 tyX5_ok nmX5 hown hK hP hD hS 0 rfl rfl 3 (by decide) (hts (.fieldLink RX5 21 "BeforeItGoes$Site" "yards" "[I") (gt_of 123 (by decide +kernel) rfl)) (fun _ h9 => h9) rfl hin rfl (by decide +kernel) rfl rfl (Nat.le_of_ble_eq_true rfl) dX5_init_58 (fun H locs hP hD hS => ?_)
  have hP : va_P (dC, dI) vwCl [(h0, .inr (4, [.ref q1, .ref q2, .ref q3, .ref q4, .null, .int 0, .int 0])), (q1, .inl (cy 0, 6, .inl (upd (upd (upd (upd (upd (upd (fun _ => 0) (0 : Int32).toNatClampNeg 18) (1 : Int32).toNatClampNeg 0) (2 : Int32).toNatClampNeg 0) (3 : Int32).toNatClampNeg 1) (4 : Int32).toNatClampNeg 0) (5 : Int32).toNatClampNeg 0))), (q2, .inl (cy 0, 6, .inl (fun _ => 0))), (q3, .inl (cy 0, 6, .inl (fun _ => 0))), (q4, .inl (cy 0, 6, .inl (fun _ => 0)))] H := hP
  have hD : va_D A [(h0, .inr (4, [.ref q1, .ref q2, .ref q3, .ref q4, .null, .int 0, .int 0])), (q1, .inl (cy 0, 6, .inl (upd (upd (upd (upd (upd (upd (fun _ => 0) (0 : Int32).toNatClampNeg 18) (1 : Int32).toNatClampNeg 0) (2 : Int32).toNatClampNeg 0) (3 : Int32).toNatClampNeg 1) (4 : Int32).toNatClampNeg 0) (5 : Int32).toNatClampNeg 0))), (q2, .inl (cy 0, 6, .inl (fun _ => 0))), (q3, .inl (cy 0, 6, .inl (fun _ => 0))), (q4, .inl (cy 0, 6, .inl (fun _ => 0)))] := hD
  refine lv_aload_n hx hb dX5_init_61 rfl (lv_at hl 0 rfl) ?_
  refine lv_bipush (v := 6) hx hb dX5_init_62 bp_6 ?_
  refine n_newi hx hb (hts _ (gt_of 150 (by decide +kernel) rfl)) hK hP hD hS hA (N' := 6) (by decide) (by decide) (Nat.le_of_ble_eq_true rfl) (Nat.le_of_ble_eq_true rfl) (Nat.le_of_ble_eq_true rfl) dX5_init_64 (fun q5 H hP hD hS => ?_)
  have hP : va_P (dC, dI) vwCl [(h0, .inr (4, [.ref q1, .ref q2, .ref q3, .ref q4, .null, .int 0, .int 0])), (q1, .inl (cy 0, 6, .inl (upd (upd (upd (upd (upd (upd (fun _ => 0) (0 : Int32).toNatClampNeg 18) (1 : Int32).toNatClampNeg 0) (2 : Int32).toNatClampNeg 0) (3 : Int32).toNatClampNeg 1) (4 : Int32).toNatClampNeg 0) (5 : Int32).toNatClampNeg 0))), (q2, .inl (cy 0, 6, .inl (fun _ => 0))), (q3, .inl (cy 0, 6, .inl (fun _ => 0))), (q4, .inl (cy 0, 6, .inl (fun _ => 0))), (q5, .inl (cy 0, 6, .inl (fun _ => 0)))] H := hP
  have hD : va_D A [(h0, .inr (4, [.ref q1, .ref q2, .ref q3, .ref q4, .null, .int 0, .int 0])), (q1, .inl (cy 0, 6, .inl (upd (upd (upd (upd (upd (upd (fun _ => 0) (0 : Int32).toNatClampNeg 18) (1 : Int32).toNatClampNeg 0) (2 : Int32).toNatClampNeg 0) (3 : Int32).toNatClampNeg 1) (4 : Int32).toNatClampNeg 0) (5 : Int32).toNatClampNeg 0))), (q2, .inl (cy 0, 6, .inl (fun _ => 0))), (q3, .inl (cy 0, 6, .inl (fun _ => 0))), (q4, .inl (cy 0, 6, .inl (fun _ => 0))), (q5, .inl (cy 0, 6, .inl (fun _ => 0)))] := hD
  refine W.widen (k := 5) (n := 30) (Nat.le_of_ble_eq_true rfl) (Nat.le_of_ble_eq_true rfl) ?_
  refine va_putF (D := (dC, dI)) (ci := 4) (v := .ref q5) (ty := (.array .int)) (C := RX5) (T := TX5) (N := 7) hx hb hts gc_X5 tyX5 tyX5_ok nmX5 hown hK hP hD hS 0 rfl rfl 4 (by decide) (hts (.fieldLink RX5 24 "BeforeItGoes$Site" "wets" "[I") (gt_of 126 (by decide +kernel) rfl)) (fun _ h9 => h9) rfl hin rfl (by decide +kernel) rfl rfl (Nat.le_of_ble_eq_true rfl) dX5_init_66 (fun H locs hP hD hS => ?_)
  have hP : va_P (dC, dI) vwCl [(h0, .inr (4, [.ref q1, .ref q2, .ref q3, .ref q4, .ref q5, .int 0, .int 0])), (q1, .inl (cy 0, 6, .inl (upd (upd (upd (upd (upd (upd (fun _ => 0) (0 : Int32).toNatClampNeg 18) (1 : Int32).toNatClampNeg 0) (2 : Int32).toNatClampNeg 0) (3 : Int32).toNatClampNeg 1) (4 : Int32).toNatClampNeg 0) (5 : Int32).toNatClampNeg 0))), (q2, .inl (cy 0, 6, .inl (fun _ => 0))), (q3, .inl (cy 0, 6, .inl (fun _ => 0))), (q4, .inl (cy 0, 6, .inl (fun _ => 0))), (q5, .inl (cy 0, 6, .inl (fun _ => 0)))] H := hP
  have hD : va_D A [(h0, .inr (4, [.ref q1, .ref q2, .ref q3, .ref q4, .ref q5, .int 0, .int 0])), (q1, .inl (cy 0, 6, .inl (upd (upd (upd (upd (upd (upd (fun _ => 0) (0 : Int32).toNatClampNeg 18) (1 : Int32).toNatClampNeg 0) (2 : Int32).toNatClampNeg 0) (3 : Int32).toNatClampNeg 1) (4 : Int32).toNatClampNeg 0) (5 : Int32).toNatClampNeg 0))), (q2, .inl (cy 0, 6, .inl (fun _ => 0))), (q3, .inl (cy 0, 6, .inl (fun _ => 0))), (q4, .inl (cy 0, 6, .inl (fun _ => 0))), (q5, .inl (cy 0, 6, .inl (fun _ => 0)))] := hD
  refine lv_aload_n hx hb dX5_init_69 rfl (lv_at hl 0 rfl) ?_
  refine lv_iconst (v := 0) hx hb dX5_init_70 ic_0 ?_
  refine va_put (D := (dC, dI)) (ci := 4) (v := .int 0) (ty := .int) (C := RX5) (T := TX5) (N := 7) hx hb hts gc_X5 tyX5 tyX5_ok nmX5 hown hK hP hD hS 0 rfl rfl 5 (by decide) (hts (.fieldLink RX5 27 "BeforeItGoes$Site" "size" "I") (gt_of 129 (by decide +kernel) rfl)) (fun _ h9 => h9) rfl (by decide +kernel) rfl rfl (Nat.le_of_ble_eq_true rfl) dX5_init_71 (fun H locs hP hD hS => ?_)
  have hP : va_P (dC, dI) vwCl [(h0, .inr (4, [.ref q1, .ref q2, .ref q3, .ref q4, .ref q5, .int 0, .int 0])), (q1, .inl (cy 0, 6, .inl (upd (upd (upd (upd (upd (upd (fun _ => 0) (0 : Int32).toNatClampNeg 18) (1 : Int32).toNatClampNeg 0) (2 : Int32).toNatClampNeg 0) (3 : Int32).toNatClampNeg 1) (4 : Int32).toNatClampNeg 0) (5 : Int32).toNatClampNeg 0))), (q2, .inl (cy 0, 6, .inl (fun _ => 0))), (q3, .inl (cy 0, 6, .inl (fun _ => 0))), (q4, .inl (cy 0, 6, .inl (fun _ => 0))), (q5, .inl (cy 0, 6, .inl (fun _ => 0)))] H := hP
  have hD : va_D A [(h0, .inr (4, [.ref q1, .ref q2, .ref q3, .ref q4, .ref q5, .int 0, .int 0])), (q1, .inl (cy 0, 6, .inl (upd (upd (upd (upd (upd (upd (fun _ => 0) (0 : Int32).toNatClampNeg 18) (1 : Int32).toNatClampNeg 0) (2 : Int32).toNatClampNeg 0) (3 : Int32).toNatClampNeg 1) (4 : Int32).toNatClampNeg 0) (5 : Int32).toNatClampNeg 0))), (q2, .inl (cy 0, 6, .inl (fun _ => 0))), (q3, .inl (cy 0, 6, .inl (fun _ => 0))), (q4, .inl (cy 0, 6, .inl (fun _ => 0))), (q5, .inl (cy 0, 6, .inl (fun _ => 0)))] := hD
  refine lv_aload_n hx hb dX5_init_74 rfl (lv_at hl 0 rfl) ?_
  refine lv_iconst (v := 0) hx hb dX5_init_75 ic_0 ?_
  refine va_put (D := (dC, dI)) (ci := 4) (v := .int 0) (ty := .int) (C := RX5) (T := TX5) (N := 7) hx hb hts gc_X5 tyX5 tyX5_ok nmX5 hown hK hP hD hS 0 rfl rfl 6 (by decide) (hts (.fieldLink RX5 31 "BeforeItGoes$Site" "rule" "I") (gt_of 132 (by decide +kernel) rfl)) (fun _ h9 => h9) rfl (by decide +kernel) rfl rfl (Nat.le_of_ble_eq_true rfl) dX5_init_76 (fun H locs hP hD hS => ?_)
  have hP : va_P (dC, dI) vwCl [(h0, .inr (4, [.ref q1, .ref q2, .ref q3, .ref q4, .ref q5, .int 0, .int 0])), (q1, .inl (cy 0, 6, .inl (upd (upd (upd (upd (upd (upd (fun _ => 0) (0 : Int32).toNatClampNeg 18) (1 : Int32).toNatClampNeg 0) (2 : Int32).toNatClampNeg 0) (3 : Int32).toNatClampNeg 1) (4 : Int32).toNatClampNeg 0) (5 : Int32).toNatClampNeg 0))), (q2, .inl (cy 0, 6, .inl (fun _ => 0))), (q3, .inl (cy 0, 6, .inl (fun _ => 0))), (q4, .inl (cy 0, 6, .inl (fun _ => 0))), (q5, .inl (cy 0, 6, .inl (fun _ => 0)))] H := hP
  have hD : va_D A [(h0, .inr (4, [.ref q1, .ref q2, .ref q3, .ref q4, .ref q5, .int 0, .int 0])), (q1, .inl (cy 0, 6, .inl (upd (upd (upd (upd (upd (upd (fun _ => 0) (0 : Int32).toNatClampNeg 18) (1 : Int32).toNatClampNeg 0) (2 : Int32).toNatClampNeg 0) (3 : Int32).toNatClampNeg 1) (4 : Int32).toNatClampNeg 0) (5 : Int32).toNatClampNeg 0))), (q2, .inl (cy 0, 6, .inl (fun _ => 0))), (q3, .inl (cy 0, 6, .inl (fun _ => 0))), (q4, .inl (cy 0, 6, .inl (fun _ => 0))), (q5, .inl (cy 0, 6, .inl (fun _ => 0)))] := hD
  refine W.widen (k := 5) (n := 30) (Nat.le_of_ble_eq_true rfl) (Nat.le_of_ble_eq_true rfl) ?_
  exact W.vret hx hb hr (fun t ht hW => ⟨⟨(), rfl, trivial, q1, q2, q3, q4, q5, by rw [ht]; exact hP, hD⟩, hS.F ht⟩) hS.2.2 dX5_init_79
theorem dX2_init_0 : decode cX2_init 0 = .ok (.aload_n 0, 1) := by decide +kernel
theorem dX2_init_1 : decode cX2_init 1 = .ok (.invokespecial 1, 3) := by decide +kernel
theorem dX2_init_4 : decode cX2_init 4 = .ok (.aload_n 0, 1) := by decide +kernel
theorem dX2_init_5 : decode cX2_init 5 = .ok (.iconst 0, 1) := by decide +kernel
theorem dX2_init_6 : decode cX2_init 6 = .ok (.putfield 7, 3) := by decide +kernel
theorem dX2_init_9 : decode cX2_init 9 = .ok (.return_, 1) := by decide +kernel
set_option maxHeartbeats 8000000 in
set_option maxRecDepth 100000 in
theorem k_X2_init (l : Launch) (dC : Nat → ClassId) (dI : Nat → Nat → Nat) (cy : Nat → ClassId) (h0 sz : Nat) : Met l yX2_init (.code yX2_init cX2_init 1 none :: gt) ({ frames := 1, cells := 0, slots := 0, locals := 12 }) (va_Pc [.ref h0] (fun U => U.heap.size = sz ∧ va_P (dC, dI) vwCl [(h0, .inr (1, [.int 0, .int 0, .int 0, .int 0]))] U.heap ∧ va_K (dC, dI) vwCl (tysO cy) U ∧ va_D (fun _ => True) [(h0, .inr (1, [.int 0, .int 0, .int 0, .int 0]))] ∧ ∀ w ∈ nw, va_Nw w U)) (va_Qv (fun _ : Unit => True) (fun _ t => va_P (dC, dI) vwCl [(h0, .inr (1, [.int 0, .int 0, .int 0, .int 0]))] t.heap ∧ va_D (va_A [(h0, .inr (1, [.int 0, .int 0, .int 0, .int 0]))] sz) [(h0, .inr (1, [.int 0, .int 0, .int 0, .int 0]))]) (va_A [(h0, .inr (1, [.int 0, .int 0, .int 0, .int 0]))] sz)) 0 0 (va_A [(h0, .inr (1, [.int 0, .int 0, .int 0, .int 0]))] sz) := by
  refine Met.ofW (cc := cX2_init) (maxL := 1) (ret := none) (by decide) rfl ?_
  intro p e s m args below meth c s₁ B hml hv
  obtain ⟨rfl, hsz, hP, hK, hD0, hNw⟩ := hv
  have hx := B.exec
  have hb := B.bytes
  have hr := B.returns
  have hts := hts_code (atoms_spec (ws := .code yX2_init cX2_init 1 none :: gt) B.pre)
  have hown : s.vm.findClass RX2 = some m.cls := findClass_of_methodNamed B.named
  have hlocks := B.notSynchronized
  have hin : meth.name = "<init>" := (name_of_methodNamed B.named B.method).1
  subst hsz
  have hD := hD0.self (sz := s.heap.size)
  generalize hAe : va_A [(h0, .inr (1, [.int 0, .int 0, .int 0, .int 0]))] s.heap.size = A at hD ⊢
  have hA : ∀ q : Nat, s.heap.size ≤ q → A q := fun q h => by rw [← hAe]; exact Or.inr h
  have hS : va_S A s.heap s.heap [] := va_S.rf
  have hP : va_P (dC, dI) vwCl [(h0, .inr (1, [.int 0, .int 0, .int 0, .int 0]))] s.heap := hP
  have hl := lv_entry ([.ref h0]) (n := 1) (Nat.le_of_ble_eq_true rfl)
  rw [lg_entry_eq]
  generalize (lg_sl ([.ref h0]) ++ List.replicate (1 - (lg_sl ([.ref h0])).length) Slot.unset).toArray = ls at hl ⊢
  have hl : lv_has ls 1 [(0, .ref h0)] := hl
  refine lv_aload_n hx hb dX2_init_0 rfl (lv_at hl 0 rfl) ?_
  refine W.objInit hx hb hown (hts (.methodLink RX2 1 objectInit) (gt_of 299 (by decide +kernel) rfl)) (hts (.instanceMethod objectInit) (gt_of 106 (by decide +kernel) rfl)) (hts _ (gt_of 107 (by decide +kernel) rfl)) rfl (by rw [hml]; exact hl.1) rfl dX2_init_1 (Nat.le_of_ble_eq_true rfl) (Nat.le_of_ble_eq_true rfl) ?_
  refine W.eq (g2 := F0 m 4 ls []) rfl ?_
  refine lv_aload_n hx hb dX2_init_4 rfl (lv_at hl 0 rfl) ?_
  refine lv_iconst (v := 0) hx hb dX2_init_5 ic_0 ?_
  refine va_put (D := (dC, dI)) (ci := 1) (v := .int 0) (ty := .boolean) (C := RX2) (T := TX2) (N := 4) hx hb hts gc_X2 tyX2 tyX2_ok nmX2 hown hK hP hD hS 0 rfl rfl 0 (by decide) (hts (.fieldLink RX2 7 "BeforeItGoes$Pick" "any" "Z") (gt_of 300 (by decide +kernel) rfl)) (fun _ h9 => h9) rfl (by decide +kernel) rfl rfl (Nat.le_of_ble_eq_true rfl) dX2_init_6 (fun H locs hP hD hS => ?_)
  have hP : va_P (dC, dI) vwCl [(h0, .inr (1, [.int 0, .int 0, .int 0, .int 0]))] H := hP
  have hD : va_D A [(h0, .inr (1, [.int 0, .int 0, .int 0, .int 0]))] := hD
  refine W.widen (k := 0) (n := 0) (Nat.le_of_ble_eq_true rfl) (Nat.le_of_ble_eq_true rfl) ?_
  exact W.vret hx hb hr (fun t ht hW => ⟨⟨(), rfl, trivial, by rw [ht]; exact hP, hD⟩, hS.F ht⟩) hS.2.2 dX2_init_9
theorem dX4_init_0 : decode cX4_init 0 = .ok (.aload_n 0, 1) := by decide +kernel
theorem dX4_init_1 : decode cX4_init 1 = .ok (.invokespecial 3, 3) := by decide +kernel
theorem dX4_init_4 : decode cX4_init 4 = .ok (.aload_n 0, 1) := by decide +kernel
theorem dX4_init_5 : decode cX4_init 5 = .ok (.bipush 40, 2) := by decide +kernel
theorem dX4_init_7 : decode cX4_init 7 = .ok (.newarray .int, 2) := by decide +kernel
theorem dX4_init_9 : decode cX4_init 9 = .ok (.putfield 9, 3) := by decide +kernel
theorem dX4_init_12 : decode cX4_init 12 = .ok (.aload_n 0, 1) := by decide +kernel
theorem dX4_init_13 : decode cX4_init 13 = .ok (.iconst (-1), 1) := by decide +kernel
theorem dX4_init_14 : decode cX4_init 14 = .ok (.putfield 15, 3) := by decide +kernel
theorem dX4_init_17 : decode cX4_init 17 = .ok (.aload_n 0, 1) := by decide +kernel
theorem dX4_init_18 : decode cX4_init 18 = .ok (.iconst 0, 1) := by decide +kernel
theorem dX4_init_19 : decode cX4_init 19 = .ok (.putfield 19, 3) := by decide +kernel
theorem dX4_init_22 : decode cX4_init 22 = .ok (.return_, 1) := by decide +kernel
set_option maxHeartbeats 8000000 in
set_option maxRecDepth 100000 in
theorem k_X4_init (l : Launch) (dC : Nat → ClassId) (dI : Nat → Nat → Nat) (cy : Nat → ClassId) (h0 sz : Nat) : Met l yX4_init (.code yX4_init cX4_init 1 none :: gt) ({ frames := 1, cells := 1, slots := 40, locals := 12 }) (va_Pc [.ref h0] (fun U => U.heap.size = sz ∧ va_P (dC, dI) vwCl [(h0, .inr (3, [.null, .int 0, .int 0]))] U.heap ∧ va_K (dC, dI) vwCl (tysO cy) U ∧ va_D (fun _ => True) [(h0, .inr (3, [.null, .int 0, .int 0]))] ∧ ∀ w ∈ nw, va_Nw w U)) (va_Qv (fun _ : Unit => True) (fun _ t => ∃ (q1 : Nat), va_P (dC, dI) vwCl [(h0, .inr (3, [.ref q1, .int (-1), .int 0])), (q1, .inl (cy 0, 40, .inl (fun _ => 0)))] t.heap ∧ va_D (va_A [(h0, .inr (3, [.null, .int 0, .int 0]))] sz) [(h0, .inr (3, [.ref q1, .int (-1), .int 0])), (q1, .inl (cy 0, 40, .inl (fun _ => 0)))]) (va_A [(h0, .inr (3, [.null, .int 0, .int 0]))] sz)) 1 40 (va_A [(h0, .inr (3, [.null, .int 0, .int 0]))] sz) := by
  refine Met.ofW (cc := cX4_init) (maxL := 1) (ret := none) (by decide) rfl ?_
  intro p e s m args below meth c s₁ B hml hv
  obtain ⟨rfl, hsz, hP, hK, hD0, hNw⟩ := hv
  have hx := B.exec
  have hb := B.bytes
  have hr := B.returns
  have hts := hts_code (atoms_spec (ws := .code yX4_init cX4_init 1 none :: gt) B.pre)
  have hown : s.vm.findClass RX4 = some m.cls := findClass_of_methodNamed B.named
  have hlocks := B.notSynchronized
  have hin : meth.name = "<init>" := (name_of_methodNamed B.named B.method).1
  subst hsz
  have hD := hD0.self (sz := s.heap.size)
  generalize hAe : va_A [(h0, .inr (3, [.null, .int 0, .int 0]))] s.heap.size = A at hD ⊢
  have hA : ∀ q : Nat, s.heap.size ≤ q → A q := fun q h => by rw [← hAe]; exact Or.inr h
  have hS : va_S A s.heap s.heap [] := va_S.rf
  have hP : va_P (dC, dI) vwCl [(h0, .inr (3, [.null, .int 0, .int 0]))] s.heap := hP
  have hl := lv_entry ([.ref h0]) (n := 1) (Nat.le_of_ble_eq_true rfl)
  rw [lg_entry_eq]
  generalize (lg_sl ([.ref h0]) ++ List.replicate (1 - (lg_sl ([.ref h0])).length) Slot.unset).toArray = ls at hl ⊢
  have hl : lv_has ls 1 [(0, .ref h0)] := hl
  refine lv_aload_n hx hb dX4_init_0 rfl (lv_at hl 0 rfl) ?_
  refine W.objInit hx hb hown (hts (.methodLink RX4 3 objectInit) (gt_of 323 (by decide +kernel) rfl)) (hts (.instanceMethod objectInit) (gt_of 106 (by decide +kernel) rfl)) (hts _ (gt_of 107 (by decide +kernel) rfl)) rfl (by rw [hml]; exact hl.1) rfl dX4_init_1 (Nat.le_of_ble_eq_true rfl) (Nat.le_of_ble_eq_true rfl) ?_
  refine W.eq (g2 := F0 m 4 ls []) rfl ?_
  refine lv_aload_n hx hb dX4_init_4 rfl (lv_at hl 0 rfl) ?_
  refine lv_bipush (v := 40) hx hb dX4_init_5 bp_40 ?_
  refine n_newi hx hb (hts _ (gt_of 150 (by decide +kernel) rfl)) hK hP hD hS hA (N' := 40) (by decide) (by decide) (Nat.le_of_ble_eq_true rfl) (Nat.le_of_ble_eq_true rfl) (Nat.le_of_ble_eq_true rfl) dX4_init_7 (fun q1 H hP hD hS => ?_)
  have hP : va_P (dC, dI) vwCl [(h0, .inr (3, [.null, .int 0, .int 0])), (q1, .inl (cy 0, 40, .inl (fun _ => 0)))] H := hP
  have hD : va_D A [(h0, .inr (3, [.null, .int 0, .int 0])), (q1, .inl (cy 0, 40, .inl (fun _ => 0)))] := hD
  refine W.widen (k := 1) (n := 40) (Nat.le_of_ble_eq_true rfl) (Nat.le_of_ble_eq_true rfl) ?_
  refine va_putF (D := (dC, dI)) (ci := 3) (v := .ref q1) (ty := (.array .int)) (C := RX4) (T := TX4) (N := 3) hx hb hts gc_X4 tyX4 tyX4_ok nmX4 hown hK hP hD hS 0 rfl rfl 0 (by decide) (hts (.fieldLink RX4 9 "BeforeItGoes$Sheet" "items" "[I") (gt_of 324 (by decide +kernel) rfl)) (fun _ h9 => h9) rfl hin rfl (by decide +kernel) rfl rfl (Nat.le_of_ble_eq_true rfl) dX4_init_9 (fun H locs hP hD hS => ?_)
  have hP : va_P (dC, dI) vwCl [(h0, .inr (3, [.ref q1, .int 0, .int 0])), (q1, .inl (cy 0, 40, .inl (fun _ => 0)))] H := hP
  have hD : va_D A [(h0, .inr (3, [.ref q1, .int 0, .int 0])), (q1, .inl (cy 0, 40, .inl (fun _ => 0)))] := hD
  refine lv_aload_n hx hb dX4_init_12 rfl (lv_at hl 0 rfl) ?_
  refine lv_iconst (v := (-1)) hx hb dX4_init_13 ic_m1 ?_
  refine va_put (D := (dC, dI)) (ci := 3) (v := .int (-1)) (ty := .int) (C := RX4) (T := TX4) (N := 3) hx hb hts gc_X4 tyX4 tyX4_ok nmX4 hown hK hP hD hS 0 rfl rfl 1 (by decide) (hts (.fieldLink RX4 15 "BeforeItGoes$Sheet" "sort" "I") (gt_of 327 (by decide +kernel) rfl)) (fun _ h9 => h9) rfl (by decide +kernel) rfl rfl (Nat.le_of_ble_eq_true rfl) dX4_init_14 (fun H locs hP hD hS => ?_)
  have hP : va_P (dC, dI) vwCl [(h0, .inr (3, [.ref q1, .int (-1), .int 0])), (q1, .inl (cy 0, 40, .inl (fun _ => 0)))] H := hP
  have hD : va_D A [(h0, .inr (3, [.ref q1, .int (-1), .int 0])), (q1, .inl (cy 0, 40, .inl (fun _ => 0)))] := hD
  refine lv_aload_n hx hb dX4_init_17 rfl (lv_at hl 0 rfl) ?_
  refine lv_iconst (v := 0) hx hb dX4_init_18 ic_0 ?_
  refine va_put (D := (dC, dI)) (ci := 3) (v := .int 0) (ty := .int) (C := RX4) (T := TX4) (N := 3) hx hb hts gc_X4 tyX4 tyX4_ok nmX4 hown hK hP hD hS 0 rfl rfl 2 (by decide) (hts (.fieldLink RX4 19 "BeforeItGoes$Sheet" "size" "I") (gt_of 329 (by decide +kernel) rfl)) (fun _ h9 => h9) rfl (by decide +kernel) rfl rfl (Nat.le_of_ble_eq_true rfl) dX4_init_19 (fun H locs hP hD hS => ?_)
  have hP : va_P (dC, dI) vwCl [(h0, .inr (3, [.ref q1, .int (-1), .int 0])), (q1, .inl (cy 0, 40, .inl (fun _ => 0)))] H := hP
  have hD : va_D A [(h0, .inr (3, [.ref q1, .int (-1), .int 0])), (q1, .inl (cy 0, 40, .inl (fun _ => 0)))] := hD
  refine W.widen (k := 1) (n := 40) (Nat.le_of_ble_eq_true rfl) (Nat.le_of_ble_eq_true rfl) ?_
  exact W.vret hx hb hr (fun t ht hW => ⟨⟨(), rfl, trivial, q1, by rw [ht]; exact hP, hD⟩, hS.F ht⟩) hS.2.2 dX4_init_22
theorem dX7_init_0 : decode cX7_init 0 = .ok (.aload_n 0, 1) := by decide +kernel
theorem dX7_init_1 : decode cX7_init 1 = .ok (.invokespecial 3, 3) := by decide +kernel
theorem dX7_init_4 : decode cX7_init 4 = .ok (.aload_n 0, 1) := by decide +kernel
theorem dX7_init_5 : decode cX7_init 5 = .ok (.sipush 160, 3) := by decide +kernel
theorem dX7_init_8 : decode cX7_init 8 = .ok (.newarray .int, 2) := by decide +kernel
theorem dX7_init_10 : decode cX7_init 10 = .ok (.putfield 9, 3) := by decide +kernel
theorem dX7_init_13 : decode cX7_init 13 = .ok (.aload_n 0, 1) := by decide +kernel
theorem dX7_init_14 : decode cX7_init 14 = .ok (.iconst 4, 1) := by decide +kernel
theorem dX7_init_15 : decode cX7_init 15 = .ok (.newarray .int, 2) := by decide +kernel
theorem dX7_init_17 : decode cX7_init 17 = .ok (.putfield 15, 3) := by decide +kernel
theorem dX7_init_20 : decode cX7_init 20 = .ok (.aload_n 0, 1) := by decide +kernel
theorem dX7_init_21 : decode cX7_init 21 = .ok (.iconst 0, 1) := by decide +kernel
theorem dX7_init_22 : decode cX7_init 22 = .ok (.putfield 18, 3) := by decide +kernel
theorem dX7_init_25 : decode cX7_init 25 = .ok (.return_, 1) := by decide +kernel
set_option maxHeartbeats 8000000 in
set_option maxRecDepth 100000 in
theorem k_X7_init (l : Launch) (dC : Nat → ClassId) (dI : Nat → Nat → Nat) (cy : Nat → ClassId) (h0 sz : Nat) : Met l yX7_init (.code yX7_init cX7_init 1 none :: gt) ({ frames := 1, cells := 2, slots := 164, locals := 12 }) (va_Pc [.ref h0] (fun U => U.heap.size = sz ∧ va_P (dC, dI) vwCl [(h0, .inr (6, [.null, .null, .int 0]))] U.heap ∧ va_K (dC, dI) vwCl (tysO cy) U ∧ va_D (fun _ => True) [(h0, .inr (6, [.null, .null, .int 0]))] ∧ ∀ w ∈ nw, va_Nw w U)) (va_Qv (fun _ : Unit => True) (fun _ t => ∃ (q1 q2 : Nat), va_P (dC, dI) vwCl [(h0, .inr (6, [.ref q1, .ref q2, .int 0])), (q1, .inl (cy 0, 160, .inl (fun _ => 0))), (q2, .inl (cy 0, 4, .inl (fun _ => 0)))] t.heap ∧ va_D (va_A [(h0, .inr (6, [.null, .null, .int 0]))] sz) [(h0, .inr (6, [.ref q1, .ref q2, .int 0])), (q1, .inl (cy 0, 160, .inl (fun _ => 0))), (q2, .inl (cy 0, 4, .inl (fun _ => 0)))]) (va_A [(h0, .inr (6, [.null, .null, .int 0]))] sz)) 2 164 (va_A [(h0, .inr (6, [.null, .null, .int 0]))] sz) := by
  refine Met.ofW (cc := cX7_init) (maxL := 1) (ret := none) (by decide) rfl ?_
  intro p e s m args below meth c s₁ B hml hv
  obtain ⟨rfl, hsz, hP, hK, hD0, hNw⟩ := hv
  have hx := B.exec
  have hb := B.bytes
  have hr := B.returns
  have hts := hts_code (atoms_spec (ws := .code yX7_init cX7_init 1 none :: gt) B.pre)
  have hown : s.vm.findClass RX7 = some m.cls := findClass_of_methodNamed B.named
  have hlocks := B.notSynchronized
  have hin : meth.name = "<init>" := (name_of_methodNamed B.named B.method).1
  subst hsz
  have hD := hD0.self (sz := s.heap.size)
  generalize hAe : va_A [(h0, .inr (6, [.null, .null, .int 0]))] s.heap.size = A at hD ⊢
  have hA : ∀ q : Nat, s.heap.size ≤ q → A q := fun q h => by rw [← hAe]; exact Or.inr h
  have hS : va_S A s.heap s.heap [] := va_S.rf
  have hP : va_P (dC, dI) vwCl [(h0, .inr (6, [.null, .null, .int 0]))] s.heap := hP
  have hl := lv_entry ([.ref h0]) (n := 1) (Nat.le_of_ble_eq_true rfl)
  rw [lg_entry_eq]
  generalize (lg_sl ([.ref h0]) ++ List.replicate (1 - (lg_sl ([.ref h0])).length) Slot.unset).toArray = ls at hl ⊢
  have hl : lv_has ls 1 [(0, .ref h0)] := hl
  refine lv_aload_n hx hb dX7_init_0 rfl (lv_at hl 0 rfl) ?_
  refine W.objInit hx hb hown (hts (.methodLink RX7 3 objectInit) (gt_of 193 (by decide +kernel) rfl)) (hts (.instanceMethod objectInit) (gt_of 106 (by decide +kernel) rfl)) (hts _ (gt_of 107 (by decide +kernel) rfl)) rfl (by rw [hml]; exact hl.1) rfl dX7_init_1 (Nat.le_of_ble_eq_true rfl) (Nat.le_of_ble_eq_true rfl) ?_
  refine W.eq (g2 := F0 m 4 ls []) rfl ?_
  refine lv_aload_n hx hb dX7_init_4 rfl (lv_at hl 0 rfl) ?_
  refine lv_sipush (v := 160) hx hb dX7_init_5 sp_160 ?_
  refine n_newi hx hb (hts _ (gt_of 150 (by decide +kernel) rfl)) hK hP hD hS hA (N' := 160) (by decide) (by decide) (Nat.le_of_ble_eq_true rfl) (Nat.le_of_ble_eq_true rfl) (Nat.le_of_ble_eq_true rfl) dX7_init_8 (fun q1 H hP hD hS => ?_)
  have hP : va_P (dC, dI) vwCl [(h0, .inr (6, [.null, .null, .int 0])), (q1, .inl (cy 0, 160, .inl (fun _ => 0)))] H := hP
  have hD : va_D A [(h0, .inr (6, [.null, .null, .int 0])), (q1, .inl (cy 0, 160, .inl (fun _ => 0)))] := hD
  refine W.widen (k := 1) (n := 160) (Nat.le_of_ble_eq_true rfl) (Nat.le_of_ble_eq_true rfl) ?_
  refine va_putF (D := (dC, dI)) (ci := 6) (v := .ref q1) (ty := (.array .int)) (C := RX7) (T := TX7) (N := 3) hx hb hts gc_X7 tyX7 tyX7_ok nmX7 hown hK hP hD hS 0 rfl rfl 0 (by decide) (hts (.fieldLink RX7 9 "BeforeItGoes$Text" "codes" "[I") (gt_of 194 (by decide +kernel) rfl)) (fun _ h9 => h9) rfl hin rfl (by decide +kernel) rfl rfl (Nat.le_of_ble_eq_true rfl) dX7_init_10 (fun H locs hP hD hS => ?_)
  have hP : va_P (dC, dI) vwCl [(h0, .inr (6, [.ref q1, .null, .int 0])), (q1, .inl (cy 0, 160, .inl (fun _ => 0)))] H := hP
  have hD : va_D A [(h0, .inr (6, [.ref q1, .null, .int 0])), (q1, .inl (cy 0, 160, .inl (fun _ => 0)))] := hD
  refine lv_aload_n hx hb dX7_init_13 rfl (lv_at hl 0 rfl) ?_
  refine lv_iconst (v := 4) hx hb dX7_init_14 ic_4 ?_
  refine n_newi hx hb (hts _ (gt_of 150 (by decide +kernel) rfl)) hK hP hD hS hA (N' := 4) (by decide) (by decide) (Nat.le_of_ble_eq_true rfl) (Nat.le_of_ble_eq_true rfl) (Nat.le_of_ble_eq_true rfl) dX7_init_15 (fun q2 H hP hD hS => ?_)
  have hP : va_P (dC, dI) vwCl [(h0, .inr (6, [.ref q1, .null, .int 0])), (q1, .inl (cy 0, 160, .inl (fun _ => 0))), (q2, .inl (cy 0, 4, .inl (fun _ => 0)))] H := hP
  have hD : va_D A [(h0, .inr (6, [.ref q1, .null, .int 0])), (q1, .inl (cy 0, 160, .inl (fun _ => 0))), (q2, .inl (cy 0, 4, .inl (fun _ => 0)))] := hD
  refine W.widen (k := 2) (n := 164) (Nat.le_of_ble_eq_true rfl) (Nat.le_of_ble_eq_true rfl) ?_
  refine va_putF (D := (dC, dI)) (ci := 6) (v := .ref q2) (ty := (.array .int)) (C := RX7) (T := TX7) (N := 3) hx hb hts gc_X7 tyX7 tyX7_ok nmX7 hown hK hP hD hS 0 rfl rfl 1 (by decide) (hts (.fieldLink RX7 15 "BeforeItGoes$Text" "ends" "[I") (gt_of 195 (by decide +kernel) rfl)) (fun _ h9 => h9) rfl hin rfl (by decide +kernel) rfl rfl (Nat.le_of_ble_eq_true rfl) dX7_init_17 (fun H locs hP hD hS => ?_)
  have hP : va_P (dC, dI) vwCl [(h0, .inr (6, [.ref q1, .ref q2, .int 0])), (q1, .inl (cy 0, 160, .inl (fun _ => 0))), (q2, .inl (cy 0, 4, .inl (fun _ => 0)))] H := hP
  have hD : va_D A [(h0, .inr (6, [.ref q1, .ref q2, .int 0])), (q1, .inl (cy 0, 160, .inl (fun _ => 0))), (q2, .inl (cy 0, 4, .inl (fun _ => 0)))] := hD
  refine lv_aload_n hx hb dX7_init_20 rfl (lv_at hl 0 rfl) ?_
  refine lv_iconst (v := 0) hx hb dX7_init_21 ic_0 ?_
  refine va_put (D := (dC, dI)) (ci := 6) (v := .int 0) (ty := .int) (C := RX7) (T := TX7) (N := 3) hx hb hts gc_X7 tyX7 tyX7_ok nmX7 hown hK hP hD hS 0 rfl rfl 2 (by decide) (hts (.fieldLink RX7 18 "BeforeItGoes$Text" "size" "I") (gt_of 196 (by decide +kernel) rfl)) (fun _ h9 => h9) rfl (by decide +kernel) rfl rfl (Nat.le_of_ble_eq_true rfl) dX7_init_22 (fun H locs hP hD hS => ?_)
  have hP : va_P (dC, dI) vwCl [(h0, .inr (6, [.ref q1, .ref q2, .int 0])), (q1, .inl (cy 0, 160, .inl (fun _ => 0))), (q2, .inl (cy 0, 4, .inl (fun _ => 0)))] H := hP
  have hD : va_D A [(h0, .inr (6, [.ref q1, .ref q2, .int 0])), (q1, .inl (cy 0, 160, .inl (fun _ => 0))), (q2, .inl (cy 0, 4, .inl (fun _ => 0)))] := hD
  refine W.widen (k := 2) (n := 164) (Nat.le_of_ble_eq_true rfl) (Nat.le_of_ble_eq_true rfl) ?_
  exact W.vret hx hb hr (fun t ht hW => ⟨⟨(), rfl, trivial, q1, q2, by rw [ht]; exact hP, hD⟩, hS.F ht⟩) hS.2.2 dX7_init_25
theorem dX6_init_0 : decode cX6_init 0 = .ok (.aload_n 0, 1) := by decide +kernel
theorem dX6_init_1 : decode cX6_init 1 = .ok (.invokespecial 3, 3) := by decide +kernel
theorem dX6_init_4 : decode cX6_init 4 = .ok (.aload_n 0, 1) := by decide +kernel
theorem dX6_init_5 : decode cX6_init 5 = .ok (.sipush 160, 3) := by decide +kernel
theorem dX6_init_8 : decode cX6_init 8 = .ok (.newarray .int, 2) := by decide +kernel
theorem dX6_init_10 : decode cX6_init 10 = .ok (.putfield 9, 3) := by decide +kernel
theorem dX6_init_13 : decode cX6_init 13 = .ok (.aload_n 0, 1) := by decide +kernel
theorem dX6_init_14 : decode cX6_init 14 = .ok (.iconst 0, 1) := by decide +kernel
theorem dX6_init_15 : decode cX6_init 15 = .ok (.putfield 15, 3) := by decide +kernel
theorem dX6_init_18 : decode cX6_init 18 = .ok (.aload_n 0, 1) := by decide +kernel
theorem dX6_init_19 : decode cX6_init 19 = .ok (.sipush 161, 3) := by decide +kernel
theorem dX6_init_22 : decode cX6_init 22 = .ok (.newarray .int, 2) := by decide +kernel
theorem dX6_init_24 : decode cX6_init 24 = .ok (.putfield 19, 3) := by decide +kernel
theorem dX6_init_27 : decode cX6_init 27 = .ok (.aload_n 0, 1) := by decide +kernel
theorem dX6_init_28 : decode cX6_init 28 = .ok (.sipush 161, 3) := by decide +kernel
theorem dX6_init_31 : decode cX6_init 31 = .ok (.newarray .int, 2) := by decide +kernel
theorem dX6_init_33 : decode cX6_init 33 = .ok (.putfield 22, 3) := by decide +kernel
theorem dX6_init_36 : decode cX6_init 36 = .ok (.aload_n 0, 1) := by decide +kernel
theorem dX6_init_37 : decode cX6_init 37 = .ok (.sipush 161, 3) := by decide +kernel
theorem dX6_init_40 : decode cX6_init 40 = .ok (.newarray .int, 2) := by decide +kernel
theorem dX6_init_42 : decode cX6_init 42 = .ok (.putfield 25, 3) := by decide +kernel
theorem dX6_init_45 : decode cX6_init 45 = .ok (.aload_n 0, 1) := by decide +kernel
theorem dX6_init_46 : decode cX6_init 46 = .ok (.iconst 0, 1) := by decide +kernel
theorem dX6_init_47 : decode cX6_init 47 = .ok (.putfield 28, 3) := by decide +kernel
theorem dX6_init_50 : decode cX6_init 50 = .ok (.return_, 1) := by decide +kernel
set_option maxHeartbeats 8000000 in
set_option maxRecDepth 100000 in
theorem k_X6_init (l : Launch) (dC : Nat → ClassId) (dI : Nat → Nat → Nat) (cy : Nat → ClassId) (h0 sz : Nat) : Met l yX6_init (.code yX6_init cX6_init 1 none :: gt) ({ frames := 1, cells := 4, slots := 643, locals := 12 }) (va_Pc [.ref h0] (fun U => U.heap.size = sz ∧ va_P (dC, dI) vwCl [(h0, .inr (5, [.null, .int 0, .null, .null, .null, .int 0]))] U.heap ∧ va_K (dC, dI) vwCl (tysO cy) U ∧ va_D (fun _ => True) [(h0, .inr (5, [.null, .int 0, .null, .null, .null, .int 0]))] ∧ ∀ w ∈ nw, va_Nw w U)) (va_Qv (fun _ : Unit => True) (fun _ t => ∃ (q1 q2 q3 q4 : Nat), va_P (dC, dI) vwCl [(h0, .inr (5, [.ref q1, .int 0, .ref q2, .ref q3, .ref q4, .int 0])), (q1, .inl (cy 0, 160, .inl (fun _ => 0))), (q2, .inl (cy 0, 161, .inl (fun _ => 0))), (q3, .inl (cy 0, 161, .inl (fun _ => 0))), (q4, .inl (cy 0, 161, .inl (fun _ => 0)))] t.heap ∧ va_D (va_A [(h0, .inr (5, [.null, .int 0, .null, .null, .null, .int 0]))] sz) [(h0, .inr (5, [.ref q1, .int 0, .ref q2, .ref q3, .ref q4, .int 0])), (q1, .inl (cy 0, 160, .inl (fun _ => 0))), (q2, .inl (cy 0, 161, .inl (fun _ => 0))), (q3, .inl (cy 0, 161, .inl (fun _ => 0))), (q4, .inl (cy 0, 161, .inl (fun _ => 0)))]) (va_A [(h0, .inr (5, [.null, .int 0, .null, .null, .null, .int 0]))] sz)) 4 643 (va_A [(h0, .inr (5, [.null, .int 0, .null, .null, .null, .int 0]))] sz) := by
  refine Met.ofW (cc := cX6_init) (maxL := 1) (ret := none) (by decide) rfl ?_
  intro p e s m args below meth c s₁ B hml hv
  obtain ⟨rfl, hsz, hP, hK, hD0, hNw⟩ := hv
  have hx := B.exec
  have hb := B.bytes
  have hr := B.returns
  have hts := hts_code (atoms_spec (ws := .code yX6_init cX6_init 1 none :: gt) B.pre)
  have hown : s.vm.findClass RX6 = some m.cls := findClass_of_methodNamed B.named
  have hlocks := B.notSynchronized
  have hin : meth.name = "<init>" := (name_of_methodNamed B.named B.method).1
  subst hsz
  have hD := hD0.self (sz := s.heap.size)
  generalize hAe : va_A [(h0, .inr (5, [.null, .int 0, .null, .null, .null, .int 0]))] s.heap.size = A at hD ⊢
  have hA : ∀ q : Nat, s.heap.size ≤ q → A q := fun q h => by rw [← hAe]; exact Or.inr h
  have hS : va_S A s.heap s.heap [] := va_S.rf
  have hP : va_P (dC, dI) vwCl [(h0, .inr (5, [.null, .int 0, .null, .null, .null, .int 0]))] s.heap := hP
  have hl := lv_entry ([.ref h0]) (n := 1) (Nat.le_of_ble_eq_true rfl)
  rw [lg_entry_eq]
  generalize (lg_sl ([.ref h0]) ++ List.replicate (1 - (lg_sl ([.ref h0])).length) Slot.unset).toArray = ls at hl ⊢
  have hl : lv_has ls 1 [(0, .ref h0)] := hl
  refine lv_aload_n hx hb dX6_init_0 rfl (lv_at hl 0 rfl) ?_
  refine W.objInit hx hb hown (hts (.methodLink RX6 3 objectInit) (gt_of 156 (by decide +kernel) rfl)) (hts (.instanceMethod objectInit) (gt_of 106 (by decide +kernel) rfl)) (hts _ (gt_of 107 (by decide +kernel) rfl)) rfl (by rw [hml]; exact hl.1) rfl dX6_init_1 (Nat.le_of_ble_eq_true rfl) (Nat.le_of_ble_eq_true rfl) ?_
  refine W.eq (g2 := F0 m 4 ls []) rfl ?_
  refine lv_aload_n hx hb dX6_init_4 rfl (lv_at hl 0 rfl) ?_
  refine lv_sipush (v := 160) hx hb dX6_init_5 sp_160 ?_
  refine n_newi hx hb (hts _ (gt_of 150 (by decide +kernel) rfl)) hK hP hD hS hA (N' := 160) (by decide) (by decide) (Nat.le_of_ble_eq_true rfl) (Nat.le_of_ble_eq_true rfl) (Nat.le_of_ble_eq_true rfl) dX6_init_8 (fun q1 H hP hD hS => ?_)
  have hP : va_P (dC, dI) vwCl [(h0, .inr (5, [.null, .int 0, .null, .null, .null, .int 0])), (q1, .inl (cy 0, 160, .inl (fun _ => 0)))] H := hP
  have hD : va_D A [(h0, .inr (5, [.null, .int 0, .null, .null, .null, .int 0])), (q1, .inl (cy 0, 160, .inl (fun _ => 0)))] := hD
  refine W.widen (k := 1) (n := 160) (Nat.le_of_ble_eq_true rfl) (Nat.le_of_ble_eq_true rfl) ?_
  refine va_putF (D := (dC, dI)) (ci := 5) (v := .ref q1) (ty := (.array .int)) (C := RX6) (T := TX6) (N := 6) hx hb hts gc_X6 tyX6 tyX6_ok nmX6 hown hK hP hD hS 0 rfl rfl 0 (by decide) (hts (.fieldLink RX6 9 "BeforeItGoes$Tape" "bytes" "[I") (gt_of 157 (by decide +kernel) rfl)) (fun _ h9 => h9) rfl hin rfl (by decide +kernel) rfl rfl (Nat.le_of_ble_eq_true rfl) dX6_init_10 (fun H locs hP hD hS => ?_)
  have hP : va_P (dC, dI) vwCl [(h0, .inr (5, [.ref q1, .int 0, .null, .null, .null, .int 0])), (q1, .inl (cy 0, 160, .inl (fun _ => 0)))] H := hP
  have hD : va_D A [(h0, .inr (5, [.ref q1, .int 0, .null, .null, .null, .int 0])), (q1, .inl (cy 0, 160, .inl (fun _ => 0)))] := hD
  refine lv_aload_n hx hb dX6_init_13 rfl (lv_at hl 0 rfl) ?_
  refine lv_iconst (v := 0) hx hb dX6_init_14 ic_0 ?_
  refine va_put (D := (dC, dI)) (ci := 5) (v := .int 0) (ty := .int) (C := RX6) (T := TX6) (N := 6) hx hb hts gc_X6 tyX6 tyX6_ok nmX6 hown hK hP hD hS 0 rfl rfl 1 (by decide) (hts (.fieldLink RX6 15 "BeforeItGoes$Tape" "size" "I") (gt_of 158 (by decide +kernel) rfl)) (fun _ h9 => h9) rfl (by decide +kernel) rfl rfl (Nat.le_of_ble_eq_true rfl) dX6_init_15 (fun H locs hP hD hS => ?_)
  have hP : va_P (dC, dI) vwCl [(h0, .inr (5, [.ref q1, .int 0, .null, .null, .null, .int 0])), (q1, .inl (cy 0, 160, .inl (fun _ => 0)))] H := hP
  have hD : va_D A [(h0, .inr (5, [.ref q1, .int 0, .null, .null, .null, .int 0])), (q1, .inl (cy 0, 160, .inl (fun _ => 0)))] := hD
  refine lv_aload_n hx hb dX6_init_18 rfl (lv_at hl 0 rfl) ?_
  refine lv_sipush (v := 161) hx hb dX6_init_19 sp_161 ?_
  refine n_newi hx hb (hts _ (gt_of 150 (by decide +kernel) rfl)) hK hP hD hS hA (N' := 161) (by decide) (by decide) (Nat.le_of_ble_eq_true rfl) (Nat.le_of_ble_eq_true rfl) (Nat.le_of_ble_eq_true rfl) dX6_init_22 (fun q2 H hP hD hS => ?_)
  have hP : va_P (dC, dI) vwCl [(h0, .inr (5, [.ref q1, .int 0, .null, .null, .null, .int 0])), (q1, .inl (cy 0, 160, .inl (fun _ => 0))), (q2, .inl (cy 0, 161, .inl (fun _ => 0)))] H := hP
  have hD : va_D A [(h0, .inr (5, [.ref q1, .int 0, .null, .null, .null, .int 0])), (q1, .inl (cy 0, 160, .inl (fun _ => 0))), (q2, .inl (cy 0, 161, .inl (fun _ => 0)))] := hD
  refine W.widen (k := 2) (n := 321) (Nat.le_of_ble_eq_true rfl) (Nat.le_of_ble_eq_true rfl) ?_
  refine va_putF (D := (dC, dI)) (ci := 5) (v := .ref q2) (ty := (.array .int)) (C := RX6) (T := TX6) (N := 6) hx hb hts gc_X6 tyX6 tyX6_ok nmX6 hown hK hP hD hS 0 rfl rfl 2 (by decide) (hts (.fieldLink RX6 19 "BeforeItGoes$Tape" "tokens" "[I") (gt_of 161 (by decide +kernel) rfl)) (fun _ h9 => h9) rfl hin rfl (by decide +kernel) rfl rfl (Nat.le_of_ble_eq_true rfl) dX6_init_24 (fun H locs hP hD hS => ?_)
  have hP : va_P (dC, dI) vwCl [(h0, .inr (5, [.ref q1, .int 0, .ref q2, .null, .null, .int 0])), (q1, .inl (cy 0, 160, .inl (fun _ => 0))), (q2, .inl (cy 0, 161, .inl (fun _ => 0)))] H := hP
  have hD : va_D A [(h0, .inr (5, [.ref q1, .int 0, .ref q2, .null, .null, .int 0])), (q1, .inl (cy 0, 160, .inl (fun _ => 0))), (q2, .inl (cy 0, 161, .inl (fun _ => 0)))] := hD
  refine lv_aload_n hx hb dX6_init_27 rfl (lv_at hl 0 rfl) ?_
  refine lv_sipush (v := 161) hx hb dX6_init_28 sp_161 ?_
  refine n_newi hx hb (hts _ (gt_of 150 (by decide +kernel) rfl)) hK hP hD hS hA (N' := 161) (by decide) (by decide) (Nat.le_of_ble_eq_true rfl) (Nat.le_of_ble_eq_true rfl) (Nat.le_of_ble_eq_true rfl) dX6_init_31 (fun q3 H hP hD hS => ?_)
  have hP : va_P (dC, dI) vwCl [(h0, .inr (5, [.ref q1, .int 0, .ref q2, .null, .null, .int 0])), (q1, .inl (cy 0, 160, .inl (fun _ => 0))), (q2, .inl (cy 0, 161, .inl (fun _ => 0))), (q3, .inl (cy 0, 161, .inl (fun _ => 0)))] H := hP
  have hD : va_D A [(h0, .inr (5, [.ref q1, .int 0, .ref q2, .null, .null, .int 0])), (q1, .inl (cy 0, 160, .inl (fun _ => 0))), (q2, .inl (cy 0, 161, .inl (fun _ => 0))), (q3, .inl (cy 0, 161, .inl (fun _ => 0)))] := hD
  refine W.widen (k := 3) (n := 482) (Nat.le_of_ble_eq_true rfl) (Nat.le_of_ble_eq_true rfl) ?_
  refine va_putF (D := (dC, dI)) (ci := 5) (v := .ref q3) (ty := (.array .int)) (C := RX6) (T := TX6) (N := 6) hx hb hts gc_X6 tyX6 tyX6_ok nmX6 hown hK hP hD hS 0 rfl rfl 3 (by decide) (hts (.fieldLink RX6 22 "BeforeItGoes$Tape" "starts" "[I") (gt_of 163 (by decide +kernel) rfl)) (fun _ h9 => h9) rfl hin rfl (by decide +kernel) rfl rfl (Nat.le_of_ble_eq_true rfl) dX6_init_33 (fun H locs hP hD hS => ?_)
  have hP : va_P (dC, dI) vwCl [(h0, .inr (5, [.ref q1, .int 0, .ref q2, .ref q3, .null, .int 0])), (q1, .inl (cy 0, 160, .inl (fun _ => 0))), (q2, .inl (cy 0, 161, .inl (fun _ => 0))), (q3, .inl (cy 0, 161, .inl (fun _ => 0)))] H := hP
  have hD : va_D A [(h0, .inr (5, [.ref q1, .int 0, .ref q2, .ref q3, .null, .int 0])), (q1, .inl (cy 0, 160, .inl (fun _ => 0))), (q2, .inl (cy 0, 161, .inl (fun _ => 0))), (q3, .inl (cy 0, 161, .inl (fun _ => 0)))] := hD
  refine lv_aload_n hx hb dX6_init_36 rfl (lv_at hl 0 rfl) ?_
  refine lv_sipush (v := 161) hx hb dX6_init_37 sp_161 ?_
  refine n_newi hx hb (hts _ (gt_of 150 (by decide +kernel) rfl)) hK hP hD hS hA (N' := 161) (by decide) (by decide) (Nat.le_of_ble_eq_true rfl) (Nat.le_of_ble_eq_true rfl) (Nat.le_of_ble_eq_true rfl) dX6_init_40 (fun q4 H hP hD hS => ?_)
  have hP : va_P (dC, dI) vwCl [(h0, .inr (5, [.ref q1, .int 0, .ref q2, .ref q3, .null, .int 0])), (q1, .inl (cy 0, 160, .inl (fun _ => 0))), (q2, .inl (cy 0, 161, .inl (fun _ => 0))), (q3, .inl (cy 0, 161, .inl (fun _ => 0))), (q4, .inl (cy 0, 161, .inl (fun _ => 0)))] H := hP
  have hD : va_D A [(h0, .inr (5, [.ref q1, .int 0, .ref q2, .ref q3, .null, .int 0])), (q1, .inl (cy 0, 160, .inl (fun _ => 0))), (q2, .inl (cy 0, 161, .inl (fun _ => 0))), (q3, .inl (cy 0, 161, .inl (fun _ => 0))), (q4, .inl (cy 0, 161, .inl (fun _ => 0)))] := hD
  refine W.widen (k := 4) (n := 643) (Nat.le_of_ble_eq_true rfl) (Nat.le_of_ble_eq_true rfl) ?_
  refine va_putF (D := (dC, dI)) (ci := 5) (v := .ref q4) (ty := (.array .int)) (C := RX6) (T := TX6) (N := 6) hx hb hts gc_X6 tyX6 tyX6_ok nmX6 hown hK hP hD hS 0 rfl rfl 4 (by decide) (hts (.fieldLink RX6 25 "BeforeItGoes$Tape" "numbers" "[I") (gt_of 165 (by decide +kernel) rfl)) (fun _ h9 => h9) rfl hin rfl (by decide +kernel) rfl rfl (Nat.le_of_ble_eq_true rfl) dX6_init_42 (fun H locs hP hD hS => ?_)
  have hP : va_P (dC, dI) vwCl [(h0, .inr (5, [.ref q1, .int 0, .ref q2, .ref q3, .ref q4, .int 0])), (q1, .inl (cy 0, 160, .inl (fun _ => 0))), (q2, .inl (cy 0, 161, .inl (fun _ => 0))), (q3, .inl (cy 0, 161, .inl (fun _ => 0))), (q4, .inl (cy 0, 161, .inl (fun _ => 0)))] H := hP
  have hD : va_D A [(h0, .inr (5, [.ref q1, .int 0, .ref q2, .ref q3, .ref q4, .int 0])), (q1, .inl (cy 0, 160, .inl (fun _ => 0))), (q2, .inl (cy 0, 161, .inl (fun _ => 0))), (q3, .inl (cy 0, 161, .inl (fun _ => 0))), (q4, .inl (cy 0, 161, .inl (fun _ => 0)))] := hD
  refine lv_aload_n hx hb dX6_init_45 rfl (lv_at hl 0 rfl) ?_
  refine lv_iconst (v := 0) hx hb dX6_init_46 ic_0 ?_
  refine va_put (D := (dC, dI)) (ci := 5) (v := .int 0) (ty := .int) (C := RX6) (T := TX6) (N := 6) hx hb hts gc_X6 tyX6 tyX6_ok nmX6 hown hK hP hD hS 0 rfl rfl 5 (by decide) (hts (.fieldLink RX6 28 "BeforeItGoes$Tape" "last" "I") (gt_of 167 (by decide +kernel) rfl)) (fun _ h9 => h9) rfl (by decide +kernel) rfl rfl (Nat.le_of_ble_eq_true rfl) dX6_init_47 (fun H locs hP hD hS => ?_)
  have hP : va_P (dC, dI) vwCl [(h0, .inr (5, [.ref q1, .int 0, .ref q2, .ref q3, .ref q4, .int 0])), (q1, .inl (cy 0, 160, .inl (fun _ => 0))), (q2, .inl (cy 0, 161, .inl (fun _ => 0))), (q3, .inl (cy 0, 161, .inl (fun _ => 0))), (q4, .inl (cy 0, 161, .inl (fun _ => 0)))] H := hP
  have hD : va_D A [(h0, .inr (5, [.ref q1, .int 0, .ref q2, .ref q3, .ref q4, .int 0])), (q1, .inl (cy 0, 160, .inl (fun _ => 0))), (q2, .inl (cy 0, 161, .inl (fun _ => 0))), (q3, .inl (cy 0, 161, .inl (fun _ => 0))), (q4, .inl (cy 0, 161, .inl (fun _ => 0)))] := hD
  refine W.widen (k := 4) (n := 643) (Nat.le_of_ble_eq_true rfl) (Nat.le_of_ble_eq_true rfl) ?_
  exact W.vret hx hb hr (fun t ht hW => ⟨⟨(), rfl, trivial, q1, q2, q3, q4, by rw [ht]; exact hP, hD⟩, hS.F ht⟩) hS.2.2 dX6_init_50
theorem dX3_init_0 : decode cX3_init 0 = .ok (.aload_n 0, 1) := by decide +kernel
theorem dX3_init_1 : decode cX3_init 1 = .ok (.invokespecial 3, 3) := by decide +kernel
theorem dX3_init_4 : decode cX3_init 4 = .ok (.aload_n 0, 1) := by decide +kernel
theorem dX3_init_5 : decode cX3_init 5 = .ok (.new 9, 3) := by decide +kernel
theorem dX3_init_8 : decode cX3_init 8 = .ok (.dup, 1) := by decide +kernel
theorem dX3_init_9 : decode cX3_init 9 = .ok (.invokespecial 11, 3) := by decide +kernel
theorem dX3_init_12 : decode cX3_init 12 = .ok (.putfield 12, 3) := by decide +kernel
theorem dX3_init_15 : decode cX3_init 15 = .ok (.aload_n 0, 1) := by decide +kernel
theorem dX3_init_16 : decode cX3_init 16 = .ok (.aload_n 1, 1) := by decide +kernel
theorem dX3_init_17 : decode cX3_init 17 = .ok (.putfield 18, 3) := by decide +kernel
theorem dX3_init_20 : decode cX3_init 20 = .ok (.return_, 1) := by decide +kernel
set_option maxHeartbeats 8000000 in
set_option maxRecDepth 100000 in
theorem k_X3_init (l : Launch) (dC : Nat → ClassId) (dI : Nat → Nat → Nat) (cy : Nat → ClassId) (h0 sz : Nat) (p1 : Nat) : Met l yX3_init (.code yX3_init cX3_init 2 none :: gt) ({ frames := 2, cells := 3, slots := 167, locals := 32 }) (va_Pc [.ref h0, .ref p1] (fun U => U.heap.size = sz ∧ va_P (dC, dI) vwCl [(h0, .inr (2, [.null, .null, .int 0, .int 0, .int 0]))] U.heap ∧ va_K (dC, dI) vwCl (tysO cy) U ∧ va_D (fun _ => True) [(h0, .inr (2, [.null, .null, .int 0, .int 0, .int 0]))] ∧ ∀ w ∈ nw, va_Nw w U)) (va_Qv (fun _ : Unit => True) (fun _ t => ∃ (q1 q2 q3 : Nat), va_P (dC, dI) vwCl [(h0, .inr (2, [.ref p1, .ref q1, .int 0, .int 0, .int 0])), (q1, .inr (6, [.ref q2, .ref q3, .int 0])), (q2, .inl (cy 0, 160, .inl (fun _ => 0))), (q3, .inl (cy 0, 4, .inl (fun _ => 0)))] t.heap ∧ va_D (va_A [(h0, .inr (2, [.null, .null, .int 0, .int 0, .int 0]))] sz) [(h0, .inr (2, [.ref p1, .ref q1, .int 0, .int 0, .int 0])), (q1, .inr (6, [.ref q2, .ref q3, .int 0])), (q2, .inl (cy 0, 160, .inl (fun _ => 0))), (q3, .inl (cy 0, 4, .inl (fun _ => 0)))]) (va_A [(h0, .inr (2, [.null, .null, .int 0, .int 0, .int 0]))] sz)) 3 167 (va_A [(h0, .inr (2, [.null, .null, .int 0, .int 0, .int 0]))] sz) := by
  refine Met.ofW (cc := cX3_init) (maxL := 2) (ret := none) (by decide) rfl ?_
  intro p e s m args below meth c s₁ B hml hv
  obtain ⟨rfl, hsz, hP, hK, hD0, hNw⟩ := hv
  have hx := B.exec
  have hb := B.bytes
  have hr := B.returns
  have hts := hts_code (atoms_spec (ws := .code yX3_init cX3_init 2 none :: gt) B.pre)
  have hown : s.vm.findClass RX3 = some m.cls := findClass_of_methodNamed B.named
  have hlocks := B.notSynchronized
  have hin : meth.name = "<init>" := (name_of_methodNamed B.named B.method).1
  subst hsz
  have hD := hD0.self (sz := s.heap.size)
  generalize hAe : va_A [(h0, .inr (2, [.null, .null, .int 0, .int 0, .int 0]))] s.heap.size = A at hD ⊢
  have hA : ∀ q : Nat, s.heap.size ≤ q → A q := fun q h => by rw [← hAe]; exact Or.inr h
  have hS : va_S A s.heap s.heap [] := va_S.rf
  have hP : va_P (dC, dI) vwCl [(h0, .inr (2, [.null, .null, .int 0, .int 0, .int 0]))] s.heap := hP
  have hl := lv_entry ([.ref h0, .ref p1]) (n := 2) (Nat.le_of_ble_eq_true rfl)
  rw [lg_entry_eq]
  generalize (lg_sl ([.ref h0, .ref p1]) ++ List.replicate (2 - (lg_sl ([.ref h0, .ref p1])).length) Slot.unset).toArray = ls at hl ⊢
  have hl : lv_has ls 2 [(0, .ref h0), (1, .ref p1)] := hl
  refine lv_aload_n hx hb dX3_init_0 rfl (lv_at hl 0 rfl) ?_
  refine W.objInit hx hb hown (hts (.methodLink RX3 3 objectInit) (gt_of 187 (by decide +kernel) rfl)) (hts (.instanceMethod objectInit) (gt_of 106 (by decide +kernel) rfl)) (hts _ (gt_of 107 (by decide +kernel) rfl)) rfl (by rw [hml]; exact hl.1) rfl dX3_init_1 (Nat.le_of_ble_eq_true rfl) (Nat.le_of_ble_eq_true rfl) ?_
  refine W.eq (g2 := F0 m 4 ls []) rfl ?_
  refine lv_aload_n hx hb dX3_init_4 rfl (lv_at hl 0 rfl) ?_
  refine va_new (ci := 6) (fs := [.null, .null, .int 0]) (C := RX7) (T := TX7) (N := 3) hx hb hts gc_X7 tyX7 tyX7_ok hown (hts _ (gt_of 188 (by decide +kernel) rfl)) (hts _ (gt_of 189 (by decide +kernel) rfl)) (hts _ (gt_of 86 (by decide +kernel) rfl)) hK hP hD hS hA rfl (fun j hj => by rcases (show j = 0 ∨ j = 1 ∨ j = 2 by omega) with rfl | rfl | rfl <;> rfl) (Nat.le_of_ble_eq_true rfl) (Nat.le_of_ble_eq_true rfl) dX3_init_5 (fun q1 H hP hD hS => ?_)
  have hP : va_P (dC, dI) vwCl [(h0, .inr (2, [.null, .null, .int 0, .int 0, .int 0])), (q1, .inr (6, [.null, .null, .int 0]))] H := hP
  have hD : va_D A [(h0, .inr (2, [.null, .null, .int 0, .int 0, .int 0])), (q1, .inr (6, [.null, .null, .int 0]))] := hD
  refine W.widen (k := 1) (n := 3) (Nat.le_of_ble_eq_true rfl) (Nat.le_of_ble_eq_true rfl) ?_
  refine lv_dup hx hb dX3_init_8 rfl ?_
  have hPc := hP.sub (ws' := [(q1, .inr (6, [.null, .null, .int 0]))]) [1] rfl
  have hDc := hD.sub (ws' := [(q1, .inr (6, [.null, .null, .int 0]))]) [1] (by decide) rfl
  have hFc := va_free (wc := [(q1, .inr (6, [.null, .null, .int 0]))]) hD hS hA [1] rfl
  refine va_callv (va_runIN (As := []) (rest := [.ref q1, .ref h0]) ⟨hx, hb, hml, hown, hts⟩ (k_X7_init l dC dI cy q1 H.size) ⟨va_cnB (host := "BeforeItGoes") (own := RX3) (index := 11) 0 hts (gt_call (y := yX7_init) (b' := cX7_init) (n' := 1) (r' := none) (gt_of 192 (by decide +kernel) rfl)) rfl rfl rfl (hNw _ (nw_of 190 (by decide +kernel) rfl)) (hts (.initialized RX7) (gt_of 86 (by decide +kernel) rfl)) ⟨by decide +kernel, by decide +kernel, by decide +kernel⟩ ⟨(Nat.le_of_ble_eq_true rfl), (Nat.le_of_ble_eq_true rfl)⟩, rfl, (hts (.instanceMethod yX7_init) (gt_of 191 (by decide +kernel) rfl))⟩ ⟨fun a U g mk q => by obtain ⟨q0, q1, qP, qK, qD, qN⟩ := q; exact ⟨q0, q1, qP, va_K.moved (u := U) (U := U.calling g mk a) (Vm.Alike.refl U.vm) qK, qD, fun w hw => va_Nw.same (nw_tab (List.mem_filter.mp hw).2) rfl (qN w hw)⟩, fun U hU hW => ⟨rfl, by rw [hU], by rw [hU]; exact hPc, va_K.moved hW.alike hK, hDc.weaken (fun _ _ _ _ => trivial), fun w hw => nw_warm (List.mem_filter.mp hw).2 hW (hNw w hw)⟩⟩ rfl rfl hl.1 rfl (lv_room (Nat.le_of_ble_eq_true rfl)) dX3_init_9 ⟨(Nat.le_of_ble_eq_true rfl), (Nat.le_of_ble_eq_true rfl)⟩) hS (fun q _ h => hFc q h) hFc (fun u t H1 locs ht hvm hw hB hz1 hk1 hS => ?_)
  obtain ⟨q2, q3, hP1, hD1⟩ := hB
  rw [ht] at hP1
  obtain ⟨hP, hD⟩ := va_join (wr := [(h0, .inr (2, [.null, .null, .int 0, .int 0, .int 0]))]) (w1 := [(q1, .inr (6, [.ref q2, .ref q3, .int 0])), (q2, .inl (cy 0, 160, .inl (fun _ => 0))), (q3, .inl (cy 0, 4, .inl (fun _ => 0)))]) hP hD [1] [0] rfl rfl (by decide) (by decide) hk1 hFc hP1 hD1
  generalize H1 = H at hP hS ⊢
  have hP : va_P (dC, dI) vwCl [(h0, .inr (2, [.null, .null, .int 0, .int 0, .int 0])), (q1, .inr (6, [.ref q2, .ref q3, .int 0])), (q2, .inl (cy 0, 160, .inl (fun _ => 0))), (q3, .inl (cy 0, 4, .inl (fun _ => 0)))] H := hP
  have hD : va_D A [(h0, .inr (2, [.null, .null, .int 0, .int 0, .int 0])), (q1, .inr (6, [.ref q2, .ref q3, .int 0])), (q2, .inl (cy 0, 160, .inl (fun _ => 0))), (q3, .inl (cy 0, 4, .inl (fun _ => 0)))] := hD
  refine W.widen (k := 3) (n := 167) (Nat.le_of_ble_eq_true rfl) (Nat.le_of_ble_eq_true rfl) ?_
  refine va_putF (D := (dC, dI)) (ci := 2) (v := .ref q1) (ty := (.object "BeforeItGoes$Text")) (C := RX3) (T := TX3) (N := 5) hx hb hts gc_X3 tyX3 tyX3_ok nmX3 hown hK hP hD hS 0 rfl rfl 1 (by decide) (hts (.fieldLink RX3 12 "BeforeItGoes$Reader" "draft" "LBeforeItGoes$Text;") (gt_of 205 (by decide +kernel) rfl)) (fun _ h9 => h9) rfl hin rfl (by decide +kernel) rfl rfl (Nat.le_of_ble_eq_true rfl) dX3_init_12 (fun H locs hP hD hS => ?_)
  have hP : va_P (dC, dI) vwCl [(h0, .inr (2, [.null, .ref q1, .int 0, .int 0, .int 0])), (q1, .inr (6, [.ref q2, .ref q3, .int 0])), (q2, .inl (cy 0, 160, .inl (fun _ => 0))), (q3, .inl (cy 0, 4, .inl (fun _ => 0)))] H := hP
  have hD : va_D A [(h0, .inr (2, [.null, .ref q1, .int 0, .int 0, .int 0])), (q1, .inr (6, [.ref q2, .ref q3, .int 0])), (q2, .inl (cy 0, 160, .inl (fun _ => 0))), (q3, .inl (cy 0, 4, .inl (fun _ => 0)))] := hD
  refine lv_aload_n hx hb dX3_init_15 rfl (lv_at hl 0 rfl) ?_
  refine lv_aload_n hx hb dX3_init_16 rfl (lv_at hl 1 rfl) ?_
  refine va_putF (D := (dC, dI)) (ci := 2) (v := .ref p1) (ty := (.object "BeforeItGoes$Tape")) (C := RX3) (T := TX3) (N := 5) hx hb hts gc_X3 tyX3 tyX3_ok nmX3 hown hK hP hD hS 0 rfl rfl 0 (by decide) (hts (.fieldLink RX3 18 "BeforeItGoes$Reader" "tape" "LBeforeItGoes$Tape;") (gt_of 204 (by decide +kernel) rfl)) (fun _ h9 => h9) rfl hin rfl (by decide +kernel) rfl rfl (Nat.le_of_ble_eq_true rfl) dX3_init_17 (fun H locs hP hD hS => ?_)
  have hP : va_P (dC, dI) vwCl [(h0, .inr (2, [.ref p1, .ref q1, .int 0, .int 0, .int 0])), (q1, .inr (6, [.ref q2, .ref q3, .int 0])), (q2, .inl (cy 0, 160, .inl (fun _ => 0))), (q3, .inl (cy 0, 4, .inl (fun _ => 0)))] H := hP
  have hD : va_D A [(h0, .inr (2, [.ref p1, .ref q1, .int 0, .int 0, .int 0])), (q1, .inr (6, [.ref q2, .ref q3, .int 0])), (q2, .inl (cy 0, 160, .inl (fun _ => 0))), (q3, .inl (cy 0, 4, .inl (fun _ => 0)))] := hD
  refine W.widen (k := 3) (n := 167) (Nat.le_of_ble_eq_true rfl) (Nat.le_of_ble_eq_true rfl) ?_
  exact W.vret hx hb hr (fun t ht hW => ⟨⟨(), rfl, trivial, q1, q2, q3, by rw [ht]; exact hP, hD⟩, hS.F ht⟩) hS.2.2 dX3_init_20
theorem dX0_init_0 : decode cX0_init 0 = .ok (.aload_n 0, 1) := by decide +kernel
theorem dX0_init_1 : decode cX0_init 1 = .ok (.invokespecial 3, 3) := by decide +kernel
theorem dX0_init_4 : decode cX0_init 4 = .ok (.aload_n 0, 1) := by decide +kernel
theorem dX0_init_5 : decode cX0_init 5 = .ok (.new 9, 3) := by decide +kernel
theorem dX0_init_8 : decode cX0_init 8 = .ok (.dup, 1) := by decide +kernel
theorem dX0_init_9 : decode cX0_init 9 = .ok (.invokespecial 11, 3) := by decide +kernel
theorem dX0_init_12 : decode cX0_init 12 = .ok (.putfield 12, 3) := by decide +kernel
theorem dX0_init_15 : decode cX0_init 15 = .ok (.aload_n 0, 1) := by decide +kernel
theorem dX0_init_16 : decode cX0_init 16 = .ok (.sipush 160, 3) := by decide +kernel
theorem dX0_init_19 : decode cX0_init 19 = .ok (.newarray .int, 2) := by decide +kernel
theorem dX0_init_21 : decode cX0_init 21 = .ok (.putfield 18, 3) := by decide +kernel
theorem dX0_init_24 : decode cX0_init 24 = .ok (.aload_n 0, 1) := by decide +kernel
theorem dX0_init_25 : decode cX0_init 25 = .ok (.bipush 6, 2) := by decide +kernel
theorem dX0_init_27 : decode cX0_init 27 = .ok (.newarray .int, 2) := by decide +kernel
theorem dX0_init_29 : decode cX0_init 29 = .ok (.putfield 22, 3) := by decide +kernel
theorem dX0_init_32 : decode cX0_init 32 = .ok (.aload_n 0, 1) := by decide +kernel
theorem dX0_init_33 : decode cX0_init 33 = .ok (.bipush 6, 2) := by decide +kernel
theorem dX0_init_35 : decode cX0_init 35 = .ok (.newarray .int, 2) := by decide +kernel
theorem dX0_init_37 : decode cX0_init 37 = .ok (.putfield 25, 3) := by decide +kernel
theorem dX0_init_40 : decode cX0_init 40 = .ok (.aload_n 0, 1) := by decide +kernel
theorem dX0_init_41 : decode cX0_init 41 = .ok (.bipush 6, 2) := by decide +kernel
theorem dX0_init_43 : decode cX0_init 43 = .ok (.newarray .int, 2) := by decide +kernel
theorem dX0_init_45 : decode cX0_init 45 = .ok (.putfield 28, 3) := by decide +kernel
theorem dX0_init_48 : decode cX0_init 48 = .ok (.aload_n 0, 1) := by decide +kernel
theorem dX0_init_49 : decode cX0_init 49 = .ok (.bipush 6, 2) := by decide +kernel
theorem dX0_init_51 : decode cX0_init 51 = .ok (.newarray .int, 2) := by decide +kernel
theorem dX0_init_53 : decode cX0_init 53 = .ok (.putfield 31, 3) := by decide +kernel
theorem dX0_init_56 : decode cX0_init 56 = .ok (.aload_n 0, 1) := by decide +kernel
theorem dX0_init_57 : decode cX0_init 57 = .ok (.bipush 6, 2) := by decide +kernel
theorem dX0_init_59 : decode cX0_init 59 = .ok (.newarray .int, 2) := by decide +kernel
theorem dX0_init_61 : decode cX0_init 61 = .ok (.putfield 34, 3) := by decide +kernel
theorem dX0_init_64 : decode cX0_init 64 = .ok (.aload_n 0, 1) := by decide +kernel
theorem dX0_init_65 : decode cX0_init 65 = .ok (.bipush 6, 2) := by decide +kernel
theorem dX0_init_67 : decode cX0_init 67 = .ok (.newarray .int, 2) := by decide +kernel
theorem dX0_init_69 : decode cX0_init 69 = .ok (.putfield 37, 3) := by decide +kernel
theorem dX0_init_72 : decode cX0_init 72 = .ok (.aload_n 0, 1) := by decide +kernel
theorem dX0_init_73 : decode cX0_init 73 = .ok (.bipush 6, 2) := by decide +kernel
theorem dX0_init_75 : decode cX0_init 75 = .ok (.newarray .int, 2) := by decide +kernel
theorem dX0_init_77 : decode cX0_init 77 = .ok (.putfield 40, 3) := by decide +kernel
theorem dX0_init_80 : decode cX0_init 80 = .ok (.aload_n 0, 1) := by decide +kernel
theorem dX0_init_81 : decode cX0_init 81 = .ok (.bipush 6, 2) := by decide +kernel
theorem dX0_init_83 : decode cX0_init 83 = .ok (.newarray .int, 2) := by decide +kernel
theorem dX0_init_85 : decode cX0_init 85 = .ok (.putfield 43, 3) := by decide +kernel
theorem dX0_init_88 : decode cX0_init 88 = .ok (.aload_n 0, 1) := by decide +kernel
theorem dX0_init_89 : decode cX0_init 89 = .ok (.bipush 6, 2) := by decide +kernel
theorem dX0_init_91 : decode cX0_init 91 = .ok (.newarray .int, 2) := by decide +kernel
theorem dX0_init_93 : decode cX0_init 93 = .ok (.putfield 46, 3) := by decide +kernel
theorem dX0_init_96 : decode cX0_init 96 = .ok (.aload_n 0, 1) := by decide +kernel
theorem dX0_init_97 : decode cX0_init 97 = .ok (.aload_n 1, 1) := by decide +kernel
theorem dX0_init_98 : decode cX0_init 98 = .ok (.putfield 49, 3) := by decide +kernel
theorem dX0_init_101 : decode cX0_init 101 = .ok (.return_, 1) := by decide +kernel
set_option maxHeartbeats 8000000 in
set_option maxRecDepth 100000 in
theorem k_X0_init (l : Launch) (dC : Nat → ClassId) (dI : Nat → Nat → Nat) (cy : Nat → ClassId) (h0 sz : Nat) (p1 : Nat) : Met l yX0_init (.code yX0_init cX0_init 2 none :: gt) ({ frames := 2, cells := 16, slots := 251, locals := 32 }) (va_Pc [.ref h0, .ref p1] (fun U => U.heap.size = sz ∧ va_P (dC, dI) vwCl [(h0, .inr (0, [.null, .null, .null, .null, .null, .null, .null, .null, .null, .null, .null, .null, .int 0, .int 0, .int 0, .int 0, .int 0]))] U.heap ∧ va_K (dC, dI) vwCl (tysO cy) U ∧ va_D (fun _ => True) [(h0, .inr (0, [.null, .null, .null, .null, .null, .null, .null, .null, .null, .null, .null, .null, .int 0, .int 0, .int 0, .int 0, .int 0]))] ∧ ∀ w ∈ nw, va_Nw w U)) (va_Qv (fun _ : Unit => True) (fun _ t => ∃ (q1 q2 q3 q4 q5 q6 q7 q8 q9 q10 q11 q12 q13 q14 q15 q16 : Nat), va_P (dC, dI) vwCl [(h0, .inr (0, [.ref q1, .ref p1, .ref q7, .ref q8, .ref q9, .ref q10, .ref q11, .ref q12, .ref q13, .ref q14, .ref q15, .ref q16, .int 0, .int 0, .int 0, .int 0, .int 0])), (q1, .inr (4, [.ref q2, .ref q3, .ref q4, .ref q5, .ref q6, .int 0, .int 0])), (q2, .inl (cy 0, 6, .inl (upd (upd (upd (upd (upd (upd (fun _ => 0) (0 : Int32).toNatClampNeg 18) (1 : Int32).toNatClampNeg 0) (2 : Int32).toNatClampNeg 0) (3 : Int32).toNatClampNeg 1) (4 : Int32).toNatClampNeg 0) (5 : Int32).toNatClampNeg 0))), (q3, .inl (cy 0, 6, .inl (fun _ => 0))), (q4, .inl (cy 0, 6, .inl (fun _ => 0))), (q5, .inl (cy 0, 6, .inl (fun _ => 0))), (q6, .inl (cy 0, 6, .inl (fun _ => 0))), (q7, .inl (cy 0, 160, .inl (fun _ => 0))), (q8, .inl (cy 0, 6, .inl (fun _ => 0))), (q9, .inl (cy 0, 6, .inl (fun _ => 0))), (q10, .inl (cy 0, 6, .inl (fun _ => 0))), (q11, .inl (cy 0, 6, .inl (fun _ => 0))), (q12, .inl (cy 0, 6, .inl (fun _ => 0))), (q13, .inl (cy 0, 6, .inl (fun _ => 0))), (q14, .inl (cy 0, 6, .inl (fun _ => 0))), (q15, .inl (cy 0, 6, .inl (fun _ => 0))), (q16, .inl (cy 0, 6, .inl (fun _ => 0)))] t.heap ∧ va_D (va_A [(h0, .inr (0, [.null, .null, .null, .null, .null, .null, .null, .null, .null, .null, .null, .null, .int 0, .int 0, .int 0, .int 0, .int 0]))] sz) [(h0, .inr (0, [.ref q1, .ref p1, .ref q7, .ref q8, .ref q9, .ref q10, .ref q11, .ref q12, .ref q13, .ref q14, .ref q15, .ref q16, .int 0, .int 0, .int 0, .int 0, .int 0])), (q1, .inr (4, [.ref q2, .ref q3, .ref q4, .ref q5, .ref q6, .int 0, .int 0])), (q2, .inl (cy 0, 6, .inl (upd (upd (upd (upd (upd (upd (fun _ => 0) (0 : Int32).toNatClampNeg 18) (1 : Int32).toNatClampNeg 0) (2 : Int32).toNatClampNeg 0) (3 : Int32).toNatClampNeg 1) (4 : Int32).toNatClampNeg 0) (5 : Int32).toNatClampNeg 0))), (q3, .inl (cy 0, 6, .inl (fun _ => 0))), (q4, .inl (cy 0, 6, .inl (fun _ => 0))), (q5, .inl (cy 0, 6, .inl (fun _ => 0))), (q6, .inl (cy 0, 6, .inl (fun _ => 0))), (q7, .inl (cy 0, 160, .inl (fun _ => 0))), (q8, .inl (cy 0, 6, .inl (fun _ => 0))), (q9, .inl (cy 0, 6, .inl (fun _ => 0))), (q10, .inl (cy 0, 6, .inl (fun _ => 0))), (q11, .inl (cy 0, 6, .inl (fun _ => 0))), (q12, .inl (cy 0, 6, .inl (fun _ => 0))), (q13, .inl (cy 0, 6, .inl (fun _ => 0))), (q14, .inl (cy 0, 6, .inl (fun _ => 0))), (q15, .inl (cy 0, 6, .inl (fun _ => 0))), (q16, .inl (cy 0, 6, .inl (fun _ => 0)))]) (va_A [(h0, .inr (0, [.null, .null, .null, .null, .null, .null, .null, .null, .null, .null, .null, .null, .int 0, .int 0, .int 0, .int 0, .int 0]))] sz)) 16 251 (va_A [(h0, .inr (0, [.null, .null, .null, .null, .null, .null, .null, .null, .null, .null, .null, .null, .int 0, .int 0, .int 0, .int 0, .int 0]))] sz) := by
  refine Met.ofW (cc := cX0_init) (maxL := 2) (ret := none) (by decide) rfl ?_
  intro p e s m args below meth c s₁ B hml hv
  obtain ⟨rfl, hsz, hP, hK, hD0, hNw⟩ := hv
  have hx := B.exec
  have hb := B.bytes
  have hr := B.returns
  have hts := hts_code (atoms_spec (ws := .code yX0_init cX0_init 2 none :: gt) B.pre)
  have hown : s.vm.findClass RX0 = some m.cls := findClass_of_methodNamed B.named
  have hlocks := B.notSynchronized
  have hin : meth.name = "<init>" := (name_of_methodNamed B.named B.method).1
  subst hsz
  have hD := hD0.self (sz := s.heap.size)
  generalize hAe : va_A [(h0, .inr (0, [.null, .null, .null, .null, .null, .null, .null, .null, .null, .null, .null, .null, .int 0, .int 0, .int 0, .int 0, .int 0]))] s.heap.size = A at hD ⊢
  have hA : ∀ q : Nat, s.heap.size ≤ q → A q := fun q h => by rw [← hAe]; exact Or.inr h
  have hS : va_S A s.heap s.heap [] := va_S.rf
  have hP : va_P (dC, dI) vwCl [(h0, .inr (0, [.null, .null, .null, .null, .null, .null, .null, .null, .null, .null, .null, .null, .int 0, .int 0, .int 0, .int 0, .int 0]))] s.heap := hP
  have hl := lv_entry ([.ref h0, .ref p1]) (n := 2) (Nat.le_of_ble_eq_true rfl)
  rw [lg_entry_eq]
  generalize (lg_sl ([.ref h0, .ref p1]) ++ List.replicate (2 - (lg_sl ([.ref h0, .ref p1])).length) Slot.unset).toArray = ls at hl ⊢
  have hl : lv_has ls 2 [(0, .ref h0), (1, .ref p1)] := hl
  refine lv_aload_n hx hb dX0_init_0 rfl (lv_at hl 0 rfl) ?_
  refine W.objInit hx hb hown (hts (.methodLink RX0 3 objectInit) (gt_of 228 (by decide +kernel) rfl)) (hts (.instanceMethod objectInit) (gt_of 106 (by decide +kernel) rfl)) (hts _ (gt_of 107 (by decide +kernel) rfl)) rfl (by rw [hml]; exact hl.1) rfl dX0_init_1 (Nat.le_of_ble_eq_true rfl) (Nat.le_of_ble_eq_true rfl) ?_
  refine W.eq (g2 := F0 m 4 ls []) rfl ?_
  refine lv_aload_n hx hb dX0_init_4 rfl (lv_at hl 0 rfl) ?_
  refine va_new (ci := 4) (fs := [.null, .null, .null, .null, .null, .int 0, .int 0]) (C := RX5) (T := TX5) (N := 7) hx hb hts gc_X5 tyX5 tyX5_ok hown (hts _ (gt_of 229 (by decide +kernel) rfl)) (hts _ (gt_of 109 (by decide +kernel) rfl)) (hts _ (gt_of 83 (by decide +kernel) rfl)) hK hP hD hS hA rfl (fun j hj => by rcases (show j = 0 ∨ j = 1 ∨ j = 2 ∨ j = 3 ∨ j = 4 ∨ j = 5 ∨ j = 6 by omega) with rfl | rfl | rfl | rfl | rfl | rfl | rfl <;> rfl) (Nat.le_of_ble_eq_true rfl) (Nat.le_of_ble_eq_true rfl) dX0_init_5 (fun q1 H hP hD hS => ?_)
  have hP : va_P (dC, dI) vwCl [(h0, .inr (0, [.null, .null, .null, .null, .null, .null, .null, .null, .null, .null, .null, .null, .int 0, .int 0, .int 0, .int 0, .int 0])), (q1, .inr (4, [.null, .null, .null, .null, .null, .int 0, .int 0]))] H := hP
  have hD : va_D A [(h0, .inr (0, [.null, .null, .null, .null, .null, .null, .null, .null, .null, .null, .null, .null, .int 0, .int 0, .int 0, .int 0, .int 0])), (q1, .inr (4, [.null, .null, .null, .null, .null, .int 0, .int 0]))] := hD
  refine W.widen (k := 1) (n := 7) (Nat.le_of_ble_eq_true rfl) (Nat.le_of_ble_eq_true rfl) ?_
  refine lv_dup hx hb dX0_init_8 rfl ?_
  have hPc := hP.sub (ws' := [(q1, .inr (4, [.null, .null, .null, .null, .null, .int 0, .int 0]))]) [1] rfl
  have hDc := hD.sub (ws' := [(q1, .inr (4, [.null, .null, .null, .null, .null, .int 0, .int 0]))]) [1] (by decide) rfl
  have hFc := va_free (wc := [(q1, .inr (4, [.null, .null, .null, .null, .null, .int 0, .int 0]))]) hD hS hA [1] rfl
  refine va_callv (va_runIN (As := []) (rest := [.ref q1, .ref h0]) ⟨hx, hb, hml, hown, hts⟩ (k_X5_init l dC dI cy q1 H.size) ⟨va_cnB (host := "BeforeItGoes") (own := RX0) (index := 11) 0 hts (gt_call (y := yX5_init) (b' := cX5_init) (n' := 1) (r' := none) (gt_of 112 (by decide +kernel) rfl)) rfl rfl rfl (hNw _ (nw_of 230 (by decide +kernel) rfl)) (hts (.initialized RX5) (gt_of 83 (by decide +kernel) rfl)) ⟨by decide +kernel, by decide +kernel, by decide +kernel⟩ ⟨(Nat.le_of_ble_eq_true rfl), (Nat.le_of_ble_eq_true rfl)⟩, rfl, (hts (.instanceMethod yX5_init) (gt_of 111 (by decide +kernel) rfl))⟩ ⟨fun a U g mk q => by obtain ⟨q0, q1, qP, qK, qD, qN⟩ := q; exact ⟨q0, q1, qP, va_K.moved (u := U) (U := U.calling g mk a) (Vm.Alike.refl U.vm) qK, qD, fun w hw => va_Nw.same (nw_tab (List.mem_filter.mp hw).2) rfl (qN w hw)⟩, fun U hU hW => ⟨rfl, by rw [hU], by rw [hU]; exact hPc, va_K.moved hW.alike hK, hDc.weaken (fun _ _ _ _ => trivial), fun w hw => nw_warm (List.mem_filter.mp hw).2 hW (hNw w hw)⟩⟩ rfl rfl hl.1 rfl (lv_room (Nat.le_of_ble_eq_true rfl)) dX0_init_9 ⟨(Nat.le_of_ble_eq_true rfl), (Nat.le_of_ble_eq_true rfl)⟩) hS (fun q _ h => hFc q h) hFc (fun u t H1 locs ht hvm hw hB hz1 hk1 hS => ?_)
  obtain ⟨q2, q3, q4, q5, q6, hP1, hD1⟩ := hB
  rw [ht] at hP1
  obtain ⟨hP, hD⟩ := va_join (wr := [(h0, .inr (0, [.null, .null, .null, .null, .null, .null, .null, .null, .null, .null, .null, .null, .int 0, .int 0, .int 0, .int 0, .int 0]))]) (w1 := [(q1, .inr (4, [.ref q2, .ref q3, .ref q4, .ref q5, .ref q6, .int 0, .int 0])), (q2, .inl (cy 0, 6, .inl (upd (upd (upd (upd (upd (upd (fun _ => 0) (0 : Int32).toNatClampNeg 18) (1 : Int32).toNatClampNeg 0) (2 : Int32).toNatClampNeg 0) (3 : Int32).toNatClampNeg 1) (4 : Int32).toNatClampNeg 0) (5 : Int32).toNatClampNeg 0))), (q3, .inl (cy 0, 6, .inl (fun _ => 0))), (q4, .inl (cy 0, 6, .inl (fun _ => 0))), (q5, .inl (cy 0, 6, .inl (fun _ => 0))), (q6, .inl (cy 0, 6, .inl (fun _ => 0)))]) hP hD [1] [0] rfl rfl (by decide) (by decide) hk1 hFc hP1 hD1
  generalize H1 = H at hP hS ⊢
  have hP : va_P (dC, dI) vwCl [(h0, .inr (0, [.null, .null, .null, .null, .null, .null, .null, .null, .null, .null, .null, .null, .int 0, .int 0, .int 0, .int 0, .int 0])), (q1, .inr (4, [.ref q2, .ref q3, .ref q4, .ref q5, .ref q6, .int 0, .int 0])), (q2, .inl (cy 0, 6, .inl (upd (upd (upd (upd (upd (upd (fun _ => 0) (0 : Int32).toNatClampNeg 18) (1 : Int32).toNatClampNeg 0) (2 : Int32).toNatClampNeg 0) (3 : Int32).toNatClampNeg 1) (4 : Int32).toNatClampNeg 0) (5 : Int32).toNatClampNeg 0))), (q3, .inl (cy 0, 6, .inl (fun _ => 0))), (q4, .inl (cy 0, 6, .inl (fun _ => 0))), (q5, .inl (cy 0, 6, .inl (fun _ => 0))), (q6, .inl (cy 0, 6, .inl (fun _ => 0)))] H := hP
  have hD : va_D A [(h0, .inr (0, [.null, .null, .null, .null, .null, .null, .null, .null, .null, .null, .null, .null, .int 0, .int 0, .int 0, .int 0, .int 0])), (q1, .inr (4, [.ref q2, .ref q3, .ref q4, .ref q5, .ref q6, .int 0, .int 0])), (q2, .inl (cy 0, 6, .inl (upd (upd (upd (upd (upd (upd (fun _ => 0) (0 : Int32).toNatClampNeg 18) (1 : Int32).toNatClampNeg 0) (2 : Int32).toNatClampNeg 0) (3 : Int32).toNatClampNeg 1) (4 : Int32).toNatClampNeg 0) (5 : Int32).toNatClampNeg 0))), (q3, .inl (cy 0, 6, .inl (fun _ => 0))), (q4, .inl (cy 0, 6, .inl (fun _ => 0))), (q5, .inl (cy 0, 6, .inl (fun _ => 0))), (q6, .inl (cy 0, 6, .inl (fun _ => 0)))] := hD
  refine W.widen (k := 6) (n := 37) (Nat.le_of_ble_eq_true rfl) (Nat.le_of_ble_eq_true rfl) ?_
  refine va_putF (D := (dC, dI)) (ci := 0) (v := .ref q1) (ty := (.object "BeforeItGoes$Site")) (C := RX0) (T := TX0) (N := 17) hx hb hts gc_X0 tyX0 tyX0_ok nmX0 hown hK hP hD hS 0 rfl rfl 0 (by decide) (hts (.fieldLink RX0 12 "BeforeItGoes$Day" "site" "LBeforeItGoes$Site;") (gt_of 231 (by decide +kernel) rfl)) (fun _ h9 => h9) rfl hin rfl (by decide +kernel) rfl rfl (Nat.le_of_ble_eq_true rfl) dX0_init_12 (fun H locs hP hD hS => ?_)
  have hP : va_P (dC, dI) vwCl [(h0, .inr (0, [.ref q1, .null, .null, .null, .null, .null, .null, .null, .null, .null, .null, .null, .int 0, .int 0, .int 0, .int 0, .int 0])), (q1, .inr (4, [.ref q2, .ref q3, .ref q4, .ref q5, .ref q6, .int 0, .int 0])), (q2, .inl (cy 0, 6, .inl (upd (upd (upd (upd (upd (upd (fun _ => 0) (0 : Int32).toNatClampNeg 18) (1 : Int32).toNatClampNeg 0) (2 : Int32).toNatClampNeg 0) (3 : Int32).toNatClampNeg 1) (4 : Int32).toNatClampNeg 0) (5 : Int32).toNatClampNeg 0))), (q3, .inl (cy 0, 6, .inl (fun _ => 0))), (q4, .inl (cy 0, 6, .inl (fun _ => 0))), (q5, .inl (cy 0, 6, .inl (fun _ => 0))), (q6, .inl (cy 0, 6, .inl (fun _ => 0)))] H := hP
  have hD : va_D A [(h0, .inr (0, [.ref q1, .null, .null, .null, .null, .null, .null, .null, .null, .null, .null, .null, .int 0, .int 0, .int 0, .int 0, .int 0])), (q1, .inr (4, [.ref q2, .ref q3, .ref q4, .ref q5, .ref q6, .int 0, .int 0])), (q2, .inl (cy 0, 6, .inl (upd (upd (upd (upd (upd (upd (fun _ => 0) (0 : Int32).toNatClampNeg 18) (1 : Int32).toNatClampNeg 0) (2 : Int32).toNatClampNeg 0) (3 : Int32).toNatClampNeg 1) (4 : Int32).toNatClampNeg 0) (5 : Int32).toNatClampNeg 0))), (q3, .inl (cy 0, 6, .inl (fun _ => 0))), (q4, .inl (cy 0, 6, .inl (fun _ => 0))), (q5, .inl (cy 0, 6, .inl (fun _ => 0))), (q6, .inl (cy 0, 6, .inl (fun _ => 0)))] := hD
  refine lv_aload_n hx hb dX0_init_15 rfl (lv_at hl 0 rfl) ?_
  refine lv_sipush (v := 160) hx hb dX0_init_16 sp_160 ?_
  refine n_newi hx hb (hts _ (gt_of 150 (by decide +kernel) rfl)) hK hP hD hS hA (N' := 160) (by decide) (by decide) (Nat.le_of_ble_eq_true rfl) (Nat.le_of_ble_eq_true rfl) (Nat.le_of_ble_eq_true rfl) dX0_init_19 (fun q7 H hP hD hS => ?_)
  have hP : va_P (dC, dI) vwCl [(h0, .inr (0, [.ref q1, .null, .null, .null, .null, .null, .null, .null, .null, .null, .null, .null, .int 0, .int 0, .int 0, .int 0, .int 0])), (q1, .inr (4, [.ref q2, .ref q3, .ref q4, .ref q5, .ref q6, .int 0, .int 0])), (q2, .inl (cy 0, 6, .inl (upd (upd (upd (upd (upd (upd (fun _ => 0) (0 : Int32).toNatClampNeg 18) (1 : Int32).toNatClampNeg 0) (2 : Int32).toNatClampNeg 0) (3 : Int32).toNatClampNeg 1) (4 : Int32).toNatClampNeg 0) (5 : Int32).toNatClampNeg 0))), (q3, .inl (cy 0, 6, .inl (fun _ => 0))), (q4, .inl (cy 0, 6, .inl (fun _ => 0))), (q5, .inl (cy 0, 6, .inl (fun _ => 0))), (q6, .inl (cy 0, 6, .inl (fun _ => 0))), (q7, .inl (cy 0, 160, .inl (fun _ => 0)))] H := hP
  have hD : va_D A [(h0, .inr (0, [.ref q1, .null, .null, .null, .null, .null, .null, .null, .null, .null, .null, .null, .int 0, .int 0, .int 0, .int 0, .int 0])), (q1, .inr (4, [.ref q2, .ref q3, .ref q4, .ref q5, .ref q6, .int 0, .int 0])), (q2, .inl (cy 0, 6, .inl (upd (upd (upd (upd (upd (upd (fun _ => 0) (0 : Int32).toNatClampNeg 18) (1 : Int32).toNatClampNeg 0) (2 : Int32).toNatClampNeg 0) (3 : Int32).toNatClampNeg 1) (4 : Int32).toNatClampNeg 0) (5 : Int32).toNatClampNeg 0))), (q3, .inl (cy 0, 6, .inl (fun _ => 0))), (q4, .inl (cy 0, 6, .inl (fun _ => 0))), (q5, .inl (cy 0, 6, .inl (fun _ => 0))), (q6, .inl (cy 0, 6, .inl (fun _ => 0))), (q7, .inl (cy 0, 160, .inl (fun _ => 0)))] := hD
  refine W.widen (k := 7) (n := 197) (Nat.le_of_ble_eq_true rfl) (Nat.le_of_ble_eq_true rfl) ?_
  refine va_putF (D := (dC, dI)) (ci := 0) (v := .ref q7) (ty := (.array .int)) (C := RX0) (T := TX0) (N := 17) hx hb hts gc_X0 tyX0 tyX0_ok nmX0 hown hK hP hD hS 0 rfl rfl 2 (by decide) (hts (.fieldLink RX0 18 "BeforeItGoes$Day" "stack" "[I") (gt_of 234 (by decide +kernel) rfl)) (fun _ h9 => h9) rfl hin rfl (by decide +kernel) rfl rfl (Nat.le_of_ble_eq_true rfl) dX0_init_21 (fun H locs hP hD hS => ?_)
  have hP : va_P (dC, dI) vwCl [(h0, .inr (0, [.ref q1, .null, .ref q7, .null, .null, .null, .null, .null, .null, .null, .null, .null, .int 0, .int 0, .int 0, .int 0, .int 0])), (q1, .inr (4, [.ref q2, .ref q3, .ref q4, .ref q5, .ref q6, .int 0, .int 0])), (q2, .inl (cy 0, 6, .inl (upd (upd (upd (upd (upd (upd (fun _ => 0) (0 : Int32).toNatClampNeg 18) (1 : Int32).toNatClampNeg 0) (2 : Int32).toNatClampNeg 0) (3 : Int32).toNatClampNeg 1) (4 : Int32).toNatClampNeg 0) (5 : Int32).toNatClampNeg 0))), (q3, .inl (cy 0, 6, .inl (fun _ => 0))), (q4, .inl (cy 0, 6, .inl (fun _ => 0))), (q5, .inl (cy 0, 6, .inl (fun _ => 0))), (q6, .inl (cy 0, 6, .inl (fun _ => 0))), (q7, .inl (cy 0, 160, .inl (fun _ => 0)))] H := hP
  have hD : va_D A [(h0, .inr (0, [.ref q1, .null, .ref q7, .null, .null, .null, .null, .null, .null, .null, .null, .null, .int 0, .int 0, .int 0, .int 0, .int 0])), (q1, .inr (4, [.ref q2, .ref q3, .ref q4, .ref q5, .ref q6, .int 0, .int 0])), (q2, .inl (cy 0, 6, .inl (upd (upd (upd (upd (upd (upd (fun _ => 0) (0 : Int32).toNatClampNeg 18) (1 : Int32).toNatClampNeg 0) (2 : Int32).toNatClampNeg 0) (3 : Int32).toNatClampNeg 1) (4 : Int32).toNatClampNeg 0) (5 : Int32).toNatClampNeg 0))), (q3, .inl (cy 0, 6, .inl (fun _ => 0))), (q4, .inl (cy 0, 6, .inl (fun _ => 0))), (q5, .inl (cy 0, 6, .inl (fun _ => 0))), (q6, .inl (cy 0, 6, .inl (fun _ => 0))), (q7, .inl (cy 0, 160, .inl (fun _ => 0)))] := hD
  refine lv_aload_n hx hb dX0_init_24 rfl (lv_at hl 0 rfl) ?_
  refine lv_bipush (v := 6) hx hb dX0_init_25 bp_6 ?_
  refine n_newi hx hb (hts _ (gt_of 150 (by decide +kernel) rfl)) hK hP hD hS hA (N' := 6) (by decide) (by decide) (Nat.le_of_ble_eq_true rfl) (Nat.le_of_ble_eq_true rfl) (Nat.le_of_ble_eq_true rfl) dX0_init_27 (fun q8 H hP hD hS => ?_)
  have hP : va_P (dC, dI) vwCl [(h0, .inr (0, [.ref q1, .null, .ref q7, .null, .null, .null, .null, .null, .null, .null, .null, .null, .int 0, .int 0, .int 0, .int 0, .int 0])), (q1, .inr (4, [.ref q2, .ref q3, .ref q4, .ref q5, .ref q6, .int 0, .int 0])), (q2, .inl (cy 0, 6, .inl (upd (upd (upd (upd (upd (upd (fun _ => 0) (0 : Int32).toNatClampNeg 18) (1 : Int32).toNatClampNeg 0) (2 : Int32).toNatClampNeg 0) (3 : Int32).toNatClampNeg 1) (4 : Int32).toNatClampNeg 0) (5 : Int32).toNatClampNeg 0))), (q3, .inl (cy 0, 6, .inl (fun _ => 0))), (q4, .inl (cy 0, 6, .inl (fun _ => 0))), (q5, .inl (cy 0, 6, .inl (fun _ => 0))), (q6, .inl (cy 0, 6, .inl (fun _ => 0))), (q7, .inl (cy 0, 160, .inl (fun _ => 0))), (q8, .inl (cy 0, 6, .inl (fun _ => 0)))] H := hP
  have hD : va_D A [(h0, .inr (0, [.ref q1, .null, .ref q7, .null, .null, .null, .null, .null, .null, .null, .null, .null, .int 0, .int 0, .int 0, .int 0, .int 0])), (q1, .inr (4, [.ref q2, .ref q3, .ref q4, .ref q5, .ref q6, .int 0, .int 0])), (q2, .inl (cy 0, 6, .inl (upd (upd (upd (upd (upd (upd (fun _ => 0) (0 : Int32).toNatClampNeg 18) (1 : Int32).toNatClampNeg 0) (2 : Int32).toNatClampNeg 0) (3 : Int32).toNatClampNeg 1) (4 : Int32).toNatClampNeg 0) (5 : Int32).toNatClampNeg 0))), (q3, .inl (cy 0, 6, .inl (fun _ => 0))), (q4, .inl (cy 0, 6, .inl (fun _ => 0))), (q5, .inl (cy 0, 6, .inl (fun _ => 0))), (q6, .inl (cy 0, 6, .inl (fun _ => 0))), (q7, .inl (cy 0, 160, .inl (fun _ => 0))), (q8, .inl (cy 0, 6, .inl (fun _ => 0)))] := hD
  refine W.widen (k := 8) (n := 203) (Nat.le_of_ble_eq_true rfl) (Nat.le_of_ble_eq_true rfl) ?_
  refine va_putF (D := (dC, dI)) (ci := 0) (v := .ref q8) (ty := (.array .int)) (C := RX0) (T := TX0) (N := 17) hx hb hts gc_X0 tyX0 tyX0_ok nmX0 hown hK hP hD hS 0 rfl rfl 3 (by decide) (hts (.fieldLink RX0 22 "BeforeItGoes$Day" "names" "[I") (gt_of 235 (by decide +kernel) rfl)) (fun _ h9 => h9) rfl hin rfl (by decide +kernel) rfl rfl (Nat.le_of_ble_eq_true rfl) dX0_init_29 (fun H locs hP hD hS => ?_)
  have hP : va_P (dC, dI) vwCl [(h0, .inr (0, [.ref q1, .null, .ref q7, .ref q8, .null, .null, .null, .null, .null, .null, .null, .null, .int 0, .int 0, .int 0, .int 0, .int 0])), (q1, .inr (4, [.ref q2, .ref q3, .ref q4, .ref q5, .ref q6, .int 0, .int 0])), (q2, .inl (cy 0, 6, .inl (upd (upd (upd (upd (upd (upd (fun _ => 0) (0 : Int32).toNatClampNeg 18) (1 : Int32).toNatClampNeg 0) (2 : Int32).toNatClampNeg 0) (3 : Int32).toNatClampNeg 1) (4 : Int32).toNatClampNeg 0) (5 : Int32).toNatClampNeg 0))), (q3, .inl (cy 0, 6, .inl (fun _ => 0))), (q4, .inl (cy 0, 6, .inl (fun _ => 0))), (q5, .inl (cy 0, 6, .inl (fun _ => 0))), (q6, .inl (cy 0, 6, .inl (fun _ => 0))), (q7, .inl (cy 0, 160, .inl (fun _ => 0))), (q8, .inl (cy 0, 6, .inl (fun _ => 0)))] H := hP
  have hD : va_D A [(h0, .inr (0, [.ref q1, .null, .ref q7, .ref q8, .null, .null, .null, .null, .null, .null, .null, .null, .int 0, .int 0, .int 0, .int 0, .int 0])), (q1, .inr (4, [.ref q2, .ref q3, .ref q4, .ref q5, .ref q6, .int 0, .int 0])), (q2, .inl (cy 0, 6, .inl (upd (upd (upd (upd (upd (upd (fun _ => 0) (0 : Int32).toNatClampNeg 18) (1 : Int32).toNatClampNeg 0) (2 : Int32).toNatClampNeg 0) (3 : Int32).toNatClampNeg 1) (4 : Int32).toNatClampNeg 0) (5 : Int32).toNatClampNeg 0))), (q3, .inl (cy 0, 6, .inl (fun _ => 0))), (q4, .inl (cy 0, 6, .inl (fun _ => 0))), (q5, .inl (cy 0, 6, .inl (fun _ => 0))), (q6, .inl (cy 0, 6, .inl (fun _ => 0))), (q7, .inl (cy 0, 160, .inl (fun _ => 0))), (q8, .inl (cy 0, 6, .inl (fun _ => 0)))] := hD
  refine lv_aload_n hx hb dX0_init_32 rfl (lv_at hl 0 rfl) ?_
  refine lv_bipush (v := 6) hx hb dX0_init_33 bp_6 ?_
  refine n_newi hx hb (hts _ (gt_of 150 (by decide +kernel) rfl)) hK hP hD hS hA (N' := 6) (by decide) (by decide) (Nat.le_of_ble_eq_true rfl) (Nat.le_of_ble_eq_true rfl) (Nat.le_of_ble_eq_true rfl) dX0_init_35 (fun q9 H hP hD hS => ?_)
  have hP : va_P (dC, dI) vwCl [(h0, .inr (0, [.ref q1, .null, .ref q7, .ref q8, .null, .null, .null, .null, .null, .null, .null, .null, .int 0, .int 0, .int 0, .int 0, .int 0])), (q1, .inr (4, [.ref q2, .ref q3, .ref q4, .ref q5, .ref q6, .int 0, .int 0])), (q2, .inl (cy 0, 6, .inl (upd (upd (upd (upd (upd (upd (fun _ => 0) (0 : Int32).toNatClampNeg 18) (1 : Int32).toNatClampNeg 0) (2 : Int32).toNatClampNeg 0) (3 : Int32).toNatClampNeg 1) (4 : Int32).toNatClampNeg 0) (5 : Int32).toNatClampNeg 0))), (q3, .inl (cy 0, 6, .inl (fun _ => 0))), (q4, .inl (cy 0, 6, .inl (fun _ => 0))), (q5, .inl (cy 0, 6, .inl (fun _ => 0))), (q6, .inl (cy 0, 6, .inl (fun _ => 0))), (q7, .inl (cy 0, 160, .inl (fun _ => 0))), (q8, .inl (cy 0, 6, .inl (fun _ => 0))), (q9, .inl (cy 0, 6, .inl (fun _ => 0)))] H := hP
  have hD : va_D A [(h0, .inr (0, [.ref q1, .null, .ref q7, .ref q8, .null, .null, .null, .null, .null, .null, .null, .null, .int 0, .int 0, .int 0, .int 0, .int 0])), (q1, .inr (4, [.ref q2, .ref q3, .ref q4, .ref q5, .ref q6, .int 0, .int 0])), (q2, .inl (cy 0, 6, .inl (upd (upd (upd (upd (upd (upd (fun _ => 0) (0 : Int32).toNatClampNeg 18) (1 : Int32).toNatClampNeg 0) (2 : Int32).toNatClampNeg 0) (3 : Int32).toNatClampNeg 1) (4 : Int32).toNatClampNeg 0) (5 : Int32).toNatClampNeg 0))), (q3, .inl (cy 0, 6, .inl (fun _ => 0))), (q4, .inl (cy 0, 6, .inl (fun _ => 0))), (q5, .inl (cy 0, 6, .inl (fun _ => 0))), (q6, .inl (cy 0, 6, .inl (fun _ => 0))), (q7, .inl (cy 0, 160, .inl (fun _ => 0))), (q8, .inl (cy 0, 6, .inl (fun _ => 0))), (q9, .inl (cy 0, 6, .inl (fun _ => 0)))] := hD
  refine W.widen (k := 9) (n := 209) (Nat.le_of_ble_eq_true rfl) (Nat.le_of_ble_eq_true rfl) ?_
  refine va_putF (D := (dC, dI)) (ci := 0) (v := .ref q9) (ty := (.array .int)) (C := RX0) (T := TX0) (N := 17) hx hb hts gc_X0 tyX0 tyX0_ok nmX0 hown hK hP hD hS 0 rfl rfl 4 (by decide) (hts (.fieldLink RX0 25 "BeforeItGoes$Day" "row" "[I") (gt_of 236 (by decide +kernel) rfl)) (fun _ h9 => h9) rfl hin rfl (by decide +kernel) rfl rfl (Nat.le_of_ble_eq_true rfl) dX0_init_37 (fun H locs hP hD hS => ?_)
  have hP : va_P (dC, dI) vwCl [(h0, .inr (0, [.ref q1, .null, .ref q7, .ref q8, .ref q9, .null, .null, .null, .null, .null, .null, .null, .int 0, .int 0, .int 0, .int 0, .int 0])), (q1, .inr (4, [.ref q2, .ref q3, .ref q4, .ref q5, .ref q6, .int 0, .int 0])), (q2, .inl (cy 0, 6, .inl (upd (upd (upd (upd (upd (upd (fun _ => 0) (0 : Int32).toNatClampNeg 18) (1 : Int32).toNatClampNeg 0) (2 : Int32).toNatClampNeg 0) (3 : Int32).toNatClampNeg 1) (4 : Int32).toNatClampNeg 0) (5 : Int32).toNatClampNeg 0))), (q3, .inl (cy 0, 6, .inl (fun _ => 0))), (q4, .inl (cy 0, 6, .inl (fun _ => 0))), (q5, .inl (cy 0, 6, .inl (fun _ => 0))), (q6, .inl (cy 0, 6, .inl (fun _ => 0))), (q7, .inl (cy 0, 160, .inl (fun _ => 0))), (q8, .inl (cy 0, 6, .inl (fun _ => 0))), (q9, .inl (cy 0, 6, .inl (fun _ => 0)))] H := hP
  have hD : va_D A [(h0, .inr (0, [.ref q1, .null, .ref q7, .ref q8, .ref q9, .null, .null, .null, .null, .null, .null, .null, .int 0, .int 0, .int 0, .int 0, .int 0])), (q1, .inr (4, [.ref q2, .ref q3, .ref q4, .ref q5, .ref q6, .int 0, .int 0])), (q2, .inl (cy 0, 6, .inl (upd (upd (upd (upd (upd (upd (fun _ => 0) (0 : Int32).toNatClampNeg 18) (1 : Int32).toNatClampNeg 0) (2 : Int32).toNatClampNeg 0) (3 : Int32).toNatClampNeg 1) (4 : Int32).toNatClampNeg 0) (5 : Int32).toNatClampNeg 0))), (q3, .inl (cy 0, 6, .inl (fun _ => 0))), (q4, .inl (cy 0, 6, .inl (fun _ => 0))), (q5, .inl (cy 0, 6, .inl (fun _ => 0))), (q6, .inl (cy 0, 6, .inl (fun _ => 0))), (q7, .inl (cy 0, 160, .inl (fun _ => 0))), (q8, .inl (cy 0, 6, .inl (fun _ => 0))), (q9, .inl (cy 0, 6, .inl (fun _ => 0)))] := hD
  refine lv_aload_n hx hb dX0_init_40 rfl (lv_at hl 0 rfl) ?_
  refine lv_bipush (v := 6) hx hb dX0_init_41 bp_6 ?_
  refine n_newi hx hb (hts _ (gt_of 150 (by decide +kernel) rfl)) hK hP hD hS hA (N' := 6) (by decide) (by decide) (Nat.le_of_ble_eq_true rfl) (Nat.le_of_ble_eq_true rfl) (Nat.le_of_ble_eq_true rfl) dX0_init_43 (fun q10 H hP hD hS => ?_)
  have hP : va_P (dC, dI) vwCl [(h0, .inr (0, [.ref q1, .null, .ref q7, .ref q8, .ref q9, .null, .null, .null, .null, .null, .null, .null, .int 0, .int 0, .int 0, .int 0, .int 0])), (q1, .inr (4, [.ref q2, .ref q3, .ref q4, .ref q5, .ref q6, .int 0, .int 0])), (q2, .inl (cy 0, 6, .inl (upd (upd (upd (upd (upd (upd (fun _ => 0) (0 : Int32).toNatClampNeg 18) (1 : Int32).toNatClampNeg 0) (2 : Int32).toNatClampNeg 0) (3 : Int32).toNatClampNeg 1) (4 : Int32).toNatClampNeg 0) (5 : Int32).toNatClampNeg 0))), (q3, .inl (cy 0, 6, .inl (fun _ => 0))), (q4, .inl (cy 0, 6, .inl (fun _ => 0))), (q5, .inl (cy 0, 6, .inl (fun _ => 0))), (q6, .inl (cy 0, 6, .inl (fun _ => 0))), (q7, .inl (cy 0, 160, .inl (fun _ => 0))), (q8, .inl (cy 0, 6, .inl (fun _ => 0))), (q9, .inl (cy 0, 6, .inl (fun _ => 0))), (q10, .inl (cy 0, 6, .inl (fun _ => 0)))] H := hP
  have hD : va_D A [(h0, .inr (0, [.ref q1, .null, .ref q7, .ref q8, .ref q9, .null, .null, .null, .null, .null, .null, .null, .int 0, .int 0, .int 0, .int 0, .int 0])), (q1, .inr (4, [.ref q2, .ref q3, .ref q4, .ref q5, .ref q6, .int 0, .int 0])), (q2, .inl (cy 0, 6, .inl (upd (upd (upd (upd (upd (upd (fun _ => 0) (0 : Int32).toNatClampNeg 18) (1 : Int32).toNatClampNeg 0) (2 : Int32).toNatClampNeg 0) (3 : Int32).toNatClampNeg 1) (4 : Int32).toNatClampNeg 0) (5 : Int32).toNatClampNeg 0))), (q3, .inl (cy 0, 6, .inl (fun _ => 0))), (q4, .inl (cy 0, 6, .inl (fun _ => 0))), (q5, .inl (cy 0, 6, .inl (fun _ => 0))), (q6, .inl (cy 0, 6, .inl (fun _ => 0))), (q7, .inl (cy 0, 160, .inl (fun _ => 0))), (q8, .inl (cy 0, 6, .inl (fun _ => 0))), (q9, .inl (cy 0, 6, .inl (fun _ => 0))), (q10, .inl (cy 0, 6, .inl (fun _ => 0)))] := hD
  refine W.widen (k := 10) (n := 215) (Nat.le_of_ble_eq_true rfl) (Nat.le_of_ble_eq_true rfl) ?_
  refine va_putF (D := (dC, dI)) (ci := 0) (v := .ref q10) (ty := (.array .int)) (C := RX0) (T := TX0) (N := 17) hx hb hts gc_X0 tyX0 tyX0_ok nmX0 hown hK hP hD hS 0 rfl rfl 5 (by decide) (hts (.fieldLink RX0 28 "BeforeItGoes$Day" "ripens" "[I") (gt_of 237 (by decide +kernel) rfl)) (fun _ h9 => h9) rfl hin rfl (by decide +kernel) rfl rfl (Nat.le_of_ble_eq_true rfl) dX0_init_45 (fun H locs hP hD hS => ?_)
  have hP : va_P (dC, dI) vwCl [(h0, .inr (0, [.ref q1, .null, .ref q7, .ref q8, .ref q9, .ref q10, .null, .null, .null, .null, .null, .null, .int 0, .int 0, .int 0, .int 0, .int 0])), (q1, .inr (4, [.ref q2, .ref q3, .ref q4, .ref q5, .ref q6, .int 0, .int 0])), (q2, .inl (cy 0, 6, .inl (upd (upd (upd (upd (upd (upd (fun _ => 0) (0 : Int32).toNatClampNeg 18) (1 : Int32).toNatClampNeg 0) (2 : Int32).toNatClampNeg 0) (3 : Int32).toNatClampNeg 1) (4 : Int32).toNatClampNeg 0) (5 : Int32).toNatClampNeg 0))), (q3, .inl (cy 0, 6, .inl (fun _ => 0))), (q4, .inl (cy 0, 6, .inl (fun _ => 0))), (q5, .inl (cy 0, 6, .inl (fun _ => 0))), (q6, .inl (cy 0, 6, .inl (fun _ => 0))), (q7, .inl (cy 0, 160, .inl (fun _ => 0))), (q8, .inl (cy 0, 6, .inl (fun _ => 0))), (q9, .inl (cy 0, 6, .inl (fun _ => 0))), (q10, .inl (cy 0, 6, .inl (fun _ => 0)))] H := hP
  have hD : va_D A [(h0, .inr (0, [.ref q1, .null, .ref q7, .ref q8, .ref q9, .ref q10, .null, .null, .null, .null, .null, .null, .int 0, .int 0, .int 0, .int 0, .int 0])), (q1, .inr (4, [.ref q2, .ref q3, .ref q4, .ref q5, .ref q6, .int 0, .int 0])), (q2, .inl (cy 0, 6, .inl (upd (upd (upd (upd (upd (upd (fun _ => 0) (0 : Int32).toNatClampNeg 18) (1 : Int32).toNatClampNeg 0) (2 : Int32).toNatClampNeg 0) (3 : Int32).toNatClampNeg 1) (4 : Int32).toNatClampNeg 0) (5 : Int32).toNatClampNeg 0))), (q3, .inl (cy 0, 6, .inl (fun _ => 0))), (q4, .inl (cy 0, 6, .inl (fun _ => 0))), (q5, .inl (cy 0, 6, .inl (fun _ => 0))), (q6, .inl (cy 0, 6, .inl (fun _ => 0))), (q7, .inl (cy 0, 160, .inl (fun _ => 0))), (q8, .inl (cy 0, 6, .inl (fun _ => 0))), (q9, .inl (cy 0, 6, .inl (fun _ => 0))), (q10, .inl (cy 0, 6, .inl (fun _ => 0)))] := hD
  refine lv_aload_n hx hb dX0_init_48 rfl (lv_at hl 0 rfl) ?_
  refine lv_bipush (v := 6) hx hb dX0_init_49 bp_6 ?_
  refine n_newi hx hb (hts _ (gt_of 150 (by decide +kernel) rfl)) hK hP hD hS hA (N' := 6) (by decide) (by decide) (Nat.le_of_ble_eq_true rfl) (Nat.le_of_ble_eq_true rfl) (Nat.le_of_ble_eq_true rfl) dX0_init_51 (fun q11 H hP hD hS => ?_)
  have hP : va_P (dC, dI) vwCl [(h0, .inr (0, [.ref q1, .null, .ref q7, .ref q8, .ref q9, .ref q10, .null, .null, .null, .null, .null, .null, .int 0, .int 0, .int 0, .int 0, .int 0])), (q1, .inr (4, [.ref q2, .ref q3, .ref q4, .ref q5, .ref q6, .int 0, .int 0])), (q2, .inl (cy 0, 6, .inl (upd (upd (upd (upd (upd (upd (fun _ => 0) (0 : Int32).toNatClampNeg 18) (1 : Int32).toNatClampNeg 0) (2 : Int32).toNatClampNeg 0) (3 : Int32).toNatClampNeg 1) (4 : Int32).toNatClampNeg 0) (5 : Int32).toNatClampNeg 0))), (q3, .inl (cy 0, 6, .inl (fun _ => 0))), (q4, .inl (cy 0, 6, .inl (fun _ => 0))), (q5, .inl (cy 0, 6, .inl (fun _ => 0))), (q6, .inl (cy 0, 6, .inl (fun _ => 0))), (q7, .inl (cy 0, 160, .inl (fun _ => 0))), (q8, .inl (cy 0, 6, .inl (fun _ => 0))), (q9, .inl (cy 0, 6, .inl (fun _ => 0))), (q10, .inl (cy 0, 6, .inl (fun _ => 0))), (q11, .inl (cy 0, 6, .inl (fun _ => 0)))] H := hP
  have hD : va_D A [(h0, .inr (0, [.ref q1, .null, .ref q7, .ref q8, .ref q9, .ref q10, .null, .null, .null, .null, .null, .null, .int 0, .int 0, .int 0, .int 0, .int 0])), (q1, .inr (4, [.ref q2, .ref q3, .ref q4, .ref q5, .ref q6, .int 0, .int 0])), (q2, .inl (cy 0, 6, .inl (upd (upd (upd (upd (upd (upd (fun _ => 0) (0 : Int32).toNatClampNeg 18) (1 : Int32).toNatClampNeg 0) (2 : Int32).toNatClampNeg 0) (3 : Int32).toNatClampNeg 1) (4 : Int32).toNatClampNeg 0) (5 : Int32).toNatClampNeg 0))), (q3, .inl (cy 0, 6, .inl (fun _ => 0))), (q4, .inl (cy 0, 6, .inl (fun _ => 0))), (q5, .inl (cy 0, 6, .inl (fun _ => 0))), (q6, .inl (cy 0, 6, .inl (fun _ => 0))), (q7, .inl (cy 0, 160, .inl (fun _ => 0))), (q8, .inl (cy 0, 6, .inl (fun _ => 0))), (q9, .inl (cy 0, 6, .inl (fun _ => 0))), (q10, .inl (cy 0, 6, .inl (fun _ => 0))), (q11, .inl (cy 0, 6, .inl (fun _ => 0)))] := hD
  refine W.widen (k := 11) (n := 221) (Nat.le_of_ble_eq_true rfl) (Nat.le_of_ble_eq_true rfl) ?_
  refine va_putF (D := (dC, dI)) (ci := 0) (v := .ref q11) (ty := (.array .int)) (C := RX0) (T := TX0) (N := 17) hx hb hts gc_X0 tyX0 tyX0_ok nmX0 hown hK hP hD hS 0 rfl rfl 6 (by decide) (hts (.fieldLink RX0 31 "BeforeItGoes$Day" "lasts" "[I") (gt_of 239 (by decide +kernel) rfl)) (fun _ h9 => h9) rfl hin rfl (by decide +kernel) rfl rfl (Nat.le_of_ble_eq_true rfl) dX0_init_53 (fun H locs hP hD hS => ?_)
  have hP : va_P (dC, dI) vwCl [(h0, .inr (0, [.ref q1, .null, .ref q7, .ref q8, .ref q9, .ref q10, .ref q11, .null, .null, .null, .null, .null, .int 0, .int 0, .int 0, .int 0, .int 0])), (q1, .inr (4, [.ref q2, .ref q3, .ref q4, .ref q5, .ref q6, .int 0, .int 0])), (q2, .inl (cy 0, 6, .inl (upd (upd (upd (upd (upd (upd (fun _ => 0) (0 : Int32).toNatClampNeg 18) (1 : Int32).toNatClampNeg 0) (2 : Int32).toNatClampNeg 0) (3 : Int32).toNatClampNeg 1) (4 : Int32).toNatClampNeg 0) (5 : Int32).toNatClampNeg 0))), (q3, .inl (cy 0, 6, .inl (fun _ => 0))), (q4, .inl (cy 0, 6, .inl (fun _ => 0))), (q5, .inl (cy 0, 6, .inl (fun _ => 0))), (q6, .inl (cy 0, 6, .inl (fun _ => 0))), (q7, .inl (cy 0, 160, .inl (fun _ => 0))), (q8, .inl (cy 0, 6, .inl (fun _ => 0))), (q9, .inl (cy 0, 6, .inl (fun _ => 0))), (q10, .inl (cy 0, 6, .inl (fun _ => 0))), (q11, .inl (cy 0, 6, .inl (fun _ => 0)))] H := hP
  have hD : va_D A [(h0, .inr (0, [.ref q1, .null, .ref q7, .ref q8, .ref q9, .ref q10, .ref q11, .null, .null, .null, .null, .null, .int 0, .int 0, .int 0, .int 0, .int 0])), (q1, .inr (4, [.ref q2, .ref q3, .ref q4, .ref q5, .ref q6, .int 0, .int 0])), (q2, .inl (cy 0, 6, .inl (upd (upd (upd (upd (upd (upd (fun _ => 0) (0 : Int32).toNatClampNeg 18) (1 : Int32).toNatClampNeg 0) (2 : Int32).toNatClampNeg 0) (3 : Int32).toNatClampNeg 1) (4 : Int32).toNatClampNeg 0) (5 : Int32).toNatClampNeg 0))), (q3, .inl (cy 0, 6, .inl (fun _ => 0))), (q4, .inl (cy 0, 6, .inl (fun _ => 0))), (q5, .inl (cy 0, 6, .inl (fun _ => 0))), (q6, .inl (cy 0, 6, .inl (fun _ => 0))), (q7, .inl (cy 0, 160, .inl (fun _ => 0))), (q8, .inl (cy 0, 6, .inl (fun _ => 0))), (q9, .inl (cy 0, 6, .inl (fun _ => 0))), (q10, .inl (cy 0, 6, .inl (fun _ => 0))), (q11, .inl (cy 0, 6, .inl (fun _ => 0)))] := hD
  refine lv_aload_n hx hb dX0_init_56 rfl (lv_at hl 0 rfl) ?_
  refine lv_bipush (v := 6) hx hb dX0_init_57 bp_6 ?_
  refine n_newi hx hb (hts _ (gt_of 150 (by decide +kernel) rfl)) hK hP hD hS hA (N' := 6) (by decide) (by decide) (Nat.le_of_ble_eq_true rfl) (Nat.le_of_ble_eq_true rfl) (Nat.le_of_ble_eq_true rfl) dX0_init_59 (fun q12 H hP hD hS => ?_)
  have hP : va_P (dC, dI) vwCl [(h0, .inr (0, [.ref q1, .null, .ref q7, .ref q8, .ref q9, .ref q10, .ref q11, .null, .null, .null, .null, .null, .int 0, .int 0, .int 0, .int 0, .int 0])), (q1, .inr (4, [.ref q2, .ref q3, .ref q4, .ref q5, .ref q6, .int 0, .int 0])), (q2, .inl (cy 0, 6, .inl (upd (upd (upd (upd (upd (upd (fun _ => 0) (0 : Int32).toNatClampNeg 18) (1 : Int32).toNatClampNeg 0) (2 : Int32).toNatClampNeg 0) (3 : Int32).toNatClampNeg 1) (4 : Int32).toNatClampNeg 0) (5 : Int32).toNatClampNeg 0))), (q3, .inl (cy 0, 6, .inl (fun _ => 0))), (q4, .inl (cy 0, 6, .inl (fun _ => 0))), (q5, .inl (cy 0, 6, .inl (fun _ => 0))), (q6, .inl (cy 0, 6, .inl (fun _ => 0))), (q7, .inl (cy 0, 160, .inl (fun _ => 0))), (q8, .inl (cy 0, 6, .inl (fun _ => 0))), (q9, .inl (cy 0, 6, .inl (fun _ => 0))), (q10, .inl (cy 0, 6, .inl (fun _ => 0))), (q11, .inl (cy 0, 6, .inl (fun _ => 0))), (q12, .inl (cy 0, 6, .inl (fun _ => 0)))] H := hP
  have hD : va_D A [(h0, .inr (0, [.ref q1, .null, .ref q7, .ref q8, .ref q9, .ref q10, .ref q11, .null, .null, .null, .null, .null, .int 0, .int 0, .int 0, .int 0, .int 0])), (q1, .inr (4, [.ref q2, .ref q3, .ref q4, .ref q5, .ref q6, .int 0, .int 0])), (q2, .inl (cy 0, 6, .inl (upd (upd (upd (upd (upd (upd (fun _ => 0) (0 : Int32).toNatClampNeg 18) (1 : Int32).toNatClampNeg 0) (2 : Int32).toNatClampNeg 0) (3 : Int32).toNatClampNeg 1) (4 : Int32).toNatClampNeg 0) (5 : Int32).toNatClampNeg 0))), (q3, .inl (cy 0, 6, .inl (fun _ => 0))), (q4, .inl (cy 0, 6, .inl (fun _ => 0))), (q5, .inl (cy 0, 6, .inl (fun _ => 0))), (q6, .inl (cy 0, 6, .inl (fun _ => 0))), (q7, .inl (cy 0, 160, .inl (fun _ => 0))), (q8, .inl (cy 0, 6, .inl (fun _ => 0))), (q9, .inl (cy 0, 6, .inl (fun _ => 0))), (q10, .inl (cy 0, 6, .inl (fun _ => 0))), (q11, .inl (cy 0, 6, .inl (fun _ => 0))), (q12, .inl (cy 0, 6, .inl (fun _ => 0)))] := hD
  refine W.widen (k := 12) (n := 227) (Nat.le_of_ble_eq_true rfl) (Nat.le_of_ble_eq_true rfl) ?_
  refine va_putF (D := (dC, dI)) (ci := 0) (v := .ref q12) (ty := (.array .int)) (C := RX0) (T := TX0) (N := 17) hx hb hts gc_X0 tyX0 tyX0_ok nmX0 hown hK hP hD hS 0 rfl rfl 7 (by decide) (hts (.fieldLink RX0 34 "BeforeItGoes$Day" "takes" "[I") (gt_of 241 (by decide +kernel) rfl)) (fun _ h9 => h9) rfl hin rfl (by decide +kernel) rfl rfl (Nat.le_of_ble_eq_true rfl) dX0_init_61 (fun H locs hP hD hS => ?_)
  have hP : va_P (dC, dI) vwCl [(h0, .inr (0, [.ref q1, .null, .ref q7, .ref q8, .ref q9, .ref q10, .ref q11, .ref q12, .null, .null, .null, .null, .int 0, .int 0, .int 0, .int 0, .int 0])), (q1, .inr (4, [.ref q2, .ref q3, .ref q4, .ref q5, .ref q6, .int 0, .int 0])), (q2, .inl (cy 0, 6, .inl (upd (upd (upd (upd (upd (upd (fun _ => 0) (0 : Int32).toNatClampNeg 18) (1 : Int32).toNatClampNeg 0) (2 : Int32).toNatClampNeg 0) (3 : Int32).toNatClampNeg 1) (4 : Int32).toNatClampNeg 0) (5 : Int32).toNatClampNeg 0))), (q3, .inl (cy 0, 6, .inl (fun _ => 0))), (q4, .inl (cy 0, 6, .inl (fun _ => 0))), (q5, .inl (cy 0, 6, .inl (fun _ => 0))), (q6, .inl (cy 0, 6, .inl (fun _ => 0))), (q7, .inl (cy 0, 160, .inl (fun _ => 0))), (q8, .inl (cy 0, 6, .inl (fun _ => 0))), (q9, .inl (cy 0, 6, .inl (fun _ => 0))), (q10, .inl (cy 0, 6, .inl (fun _ => 0))), (q11, .inl (cy 0, 6, .inl (fun _ => 0))), (q12, .inl (cy 0, 6, .inl (fun _ => 0)))] H := hP
  have hD : va_D A [(h0, .inr (0, [.ref q1, .null, .ref q7, .ref q8, .ref q9, .ref q10, .ref q11, .ref q12, .null, .null, .null, .null, .int 0, .int 0, .int 0, .int 0, .int 0])), (q1, .inr (4, [.ref q2, .ref q3, .ref q4, .ref q5, .ref q6, .int 0, .int 0])), (q2, .inl (cy 0, 6, .inl (upd (upd (upd (upd (upd (upd (fun _ => 0) (0 : Int32).toNatClampNeg 18) (1 : Int32).toNatClampNeg 0) (2 : Int32).toNatClampNeg 0) (3 : Int32).toNatClampNeg 1) (4 : Int32).toNatClampNeg 0) (5 : Int32).toNatClampNeg 0))), (q3, .inl (cy 0, 6, .inl (fun _ => 0))), (q4, .inl (cy 0, 6, .inl (fun _ => 0))), (q5, .inl (cy 0, 6, .inl (fun _ => 0))), (q6, .inl (cy 0, 6, .inl (fun _ => 0))), (q7, .inl (cy 0, 160, .inl (fun _ => 0))), (q8, .inl (cy 0, 6, .inl (fun _ => 0))), (q9, .inl (cy 0, 6, .inl (fun _ => 0))), (q10, .inl (cy 0, 6, .inl (fun _ => 0))), (q11, .inl (cy 0, 6, .inl (fun _ => 0))), (q12, .inl (cy 0, 6, .inl (fun _ => 0)))] := hD
  refine lv_aload_n hx hb dX0_init_64 rfl (lv_at hl 0 rfl) ?_
  refine lv_bipush (v := 6) hx hb dX0_init_65 bp_6 ?_
  refine n_newi hx hb (hts _ (gt_of 150 (by decide +kernel) rfl)) hK hP hD hS hA (N' := 6) (by decide) (by decide) (Nat.le_of_ble_eq_true rfl) (Nat.le_of_ble_eq_true rfl) (Nat.le_of_ble_eq_true rfl) dX0_init_67 (fun q13 H hP hD hS => ?_)
  have hP : va_P (dC, dI) vwCl [(h0, .inr (0, [.ref q1, .null, .ref q7, .ref q8, .ref q9, .ref q10, .ref q11, .ref q12, .null, .null, .null, .null, .int 0, .int 0, .int 0, .int 0, .int 0])), (q1, .inr (4, [.ref q2, .ref q3, .ref q4, .ref q5, .ref q6, .int 0, .int 0])), (q2, .inl (cy 0, 6, .inl (upd (upd (upd (upd (upd (upd (fun _ => 0) (0 : Int32).toNatClampNeg 18) (1 : Int32).toNatClampNeg 0) (2 : Int32).toNatClampNeg 0) (3 : Int32).toNatClampNeg 1) (4 : Int32).toNatClampNeg 0) (5 : Int32).toNatClampNeg 0))), (q3, .inl (cy 0, 6, .inl (fun _ => 0))), (q4, .inl (cy 0, 6, .inl (fun _ => 0))), (q5, .inl (cy 0, 6, .inl (fun _ => 0))), (q6, .inl (cy 0, 6, .inl (fun _ => 0))), (q7, .inl (cy 0, 160, .inl (fun _ => 0))), (q8, .inl (cy 0, 6, .inl (fun _ => 0))), (q9, .inl (cy 0, 6, .inl (fun _ => 0))), (q10, .inl (cy 0, 6, .inl (fun _ => 0))), (q11, .inl (cy 0, 6, .inl (fun _ => 0))), (q12, .inl (cy 0, 6, .inl (fun _ => 0))), (q13, .inl (cy 0, 6, .inl (fun _ => 0)))] H := hP
  have hD : va_D A [(h0, .inr (0, [.ref q1, .null, .ref q7, .ref q8, .ref q9, .ref q10, .ref q11, .ref q12, .null, .null, .null, .null, .int 0, .int 0, .int 0, .int 0, .int 0])), (q1, .inr (4, [.ref q2, .ref q3, .ref q4, .ref q5, .ref q6, .int 0, .int 0])), (q2, .inl (cy 0, 6, .inl (upd (upd (upd (upd (upd (upd (fun _ => 0) (0 : Int32).toNatClampNeg 18) (1 : Int32).toNatClampNeg 0) (2 : Int32).toNatClampNeg 0) (3 : Int32).toNatClampNeg 1) (4 : Int32).toNatClampNeg 0) (5 : Int32).toNatClampNeg 0))), (q3, .inl (cy 0, 6, .inl (fun _ => 0))), (q4, .inl (cy 0, 6, .inl (fun _ => 0))), (q5, .inl (cy 0, 6, .inl (fun _ => 0))), (q6, .inl (cy 0, 6, .inl (fun _ => 0))), (q7, .inl (cy 0, 160, .inl (fun _ => 0))), (q8, .inl (cy 0, 6, .inl (fun _ => 0))), (q9, .inl (cy 0, 6, .inl (fun _ => 0))), (q10, .inl (cy 0, 6, .inl (fun _ => 0))), (q11, .inl (cy 0, 6, .inl (fun _ => 0))), (q12, .inl (cy 0, 6, .inl (fun _ => 0))), (q13, .inl (cy 0, 6, .inl (fun _ => 0)))] := hD
  refine W.widen (k := 13) (n := 233) (Nat.le_of_ble_eq_true rfl) (Nat.le_of_ble_eq_true rfl) ?_
  refine va_putF (D := (dC, dI)) (ci := 0) (v := .ref q13) (ty := (.array .int)) (C := RX0) (T := TX0) (N := 17) hx hb hts gc_X0 tyX0 tyX0_ok nmX0 hown hK hP hD hS 0 rfl rfl 8 (by decide) (hts (.fieldLink RX0 37 "BeforeItGoes$Day" "begun" "[I") (gt_of 243 (by decide +kernel) rfl)) (fun _ h9 => h9) rfl hin rfl (by decide +kernel) rfl rfl (Nat.le_of_ble_eq_true rfl) dX0_init_69 (fun H locs hP hD hS => ?_)
  have hP : va_P (dC, dI) vwCl [(h0, .inr (0, [.ref q1, .null, .ref q7, .ref q8, .ref q9, .ref q10, .ref q11, .ref q12, .ref q13, .null, .null, .null, .int 0, .int 0, .int 0, .int 0, .int 0])), (q1, .inr (4, [.ref q2, .ref q3, .ref q4, .ref q5, .ref q6, .int 0, .int 0])), (q2, .inl (cy 0, 6, .inl (upd (upd (upd (upd (upd (upd (fun _ => 0) (0 : Int32).toNatClampNeg 18) (1 : Int32).toNatClampNeg 0) (2 : Int32).toNatClampNeg 0) (3 : Int32).toNatClampNeg 1) (4 : Int32).toNatClampNeg 0) (5 : Int32).toNatClampNeg 0))), (q3, .inl (cy 0, 6, .inl (fun _ => 0))), (q4, .inl (cy 0, 6, .inl (fun _ => 0))), (q5, .inl (cy 0, 6, .inl (fun _ => 0))), (q6, .inl (cy 0, 6, .inl (fun _ => 0))), (q7, .inl (cy 0, 160, .inl (fun _ => 0))), (q8, .inl (cy 0, 6, .inl (fun _ => 0))), (q9, .inl (cy 0, 6, .inl (fun _ => 0))), (q10, .inl (cy 0, 6, .inl (fun _ => 0))), (q11, .inl (cy 0, 6, .inl (fun _ => 0))), (q12, .inl (cy 0, 6, .inl (fun _ => 0))), (q13, .inl (cy 0, 6, .inl (fun _ => 0)))] H := hP
  have hD : va_D A [(h0, .inr (0, [.ref q1, .null, .ref q7, .ref q8, .ref q9, .ref q10, .ref q11, .ref q12, .ref q13, .null, .null, .null, .int 0, .int 0, .int 0, .int 0, .int 0])), (q1, .inr (4, [.ref q2, .ref q3, .ref q4, .ref q5, .ref q6, .int 0, .int 0])), (q2, .inl (cy 0, 6, .inl (upd (upd (upd (upd (upd (upd (fun _ => 0) (0 : Int32).toNatClampNeg 18) (1 : Int32).toNatClampNeg 0) (2 : Int32).toNatClampNeg 0) (3 : Int32).toNatClampNeg 1) (4 : Int32).toNatClampNeg 0) (5 : Int32).toNatClampNeg 0))), (q3, .inl (cy 0, 6, .inl (fun _ => 0))), (q4, .inl (cy 0, 6, .inl (fun _ => 0))), (q5, .inl (cy 0, 6, .inl (fun _ => 0))), (q6, .inl (cy 0, 6, .inl (fun _ => 0))), (q7, .inl (cy 0, 160, .inl (fun _ => 0))), (q8, .inl (cy 0, 6, .inl (fun _ => 0))), (q9, .inl (cy 0, 6, .inl (fun _ => 0))), (q10, .inl (cy 0, 6, .inl (fun _ => 0))), (q11, .inl (cy 0, 6, .inl (fun _ => 0))), (q12, .inl (cy 0, 6, .inl (fun _ => 0))), (q13, .inl (cy 0, 6, .inl (fun _ => 0)))] := hD
  refine lv_aload_n hx hb dX0_init_72 rfl (lv_at hl 0 rfl) ?_
  refine lv_bipush (v := 6) hx hb dX0_init_73 bp_6 ?_
  refine n_newi hx hb (hts _ (gt_of 150 (by decide +kernel) rfl)) hK hP hD hS hA (N' := 6) (by decide) (by decide) (Nat.le_of_ble_eq_true rfl) (Nat.le_of_ble_eq_true rfl) (Nat.le_of_ble_eq_true rfl) dX0_init_75 (fun q14 H hP hD hS => ?_)
  have hP : va_P (dC, dI) vwCl [(h0, .inr (0, [.ref q1, .null, .ref q7, .ref q8, .ref q9, .ref q10, .ref q11, .ref q12, .ref q13, .null, .null, .null, .int 0, .int 0, .int 0, .int 0, .int 0])), (q1, .inr (4, [.ref q2, .ref q3, .ref q4, .ref q5, .ref q6, .int 0, .int 0])), (q2, .inl (cy 0, 6, .inl (upd (upd (upd (upd (upd (upd (fun _ => 0) (0 : Int32).toNatClampNeg 18) (1 : Int32).toNatClampNeg 0) (2 : Int32).toNatClampNeg 0) (3 : Int32).toNatClampNeg 1) (4 : Int32).toNatClampNeg 0) (5 : Int32).toNatClampNeg 0))), (q3, .inl (cy 0, 6, .inl (fun _ => 0))), (q4, .inl (cy 0, 6, .inl (fun _ => 0))), (q5, .inl (cy 0, 6, .inl (fun _ => 0))), (q6, .inl (cy 0, 6, .inl (fun _ => 0))), (q7, .inl (cy 0, 160, .inl (fun _ => 0))), (q8, .inl (cy 0, 6, .inl (fun _ => 0))), (q9, .inl (cy 0, 6, .inl (fun _ => 0))), (q10, .inl (cy 0, 6, .inl (fun _ => 0))), (q11, .inl (cy 0, 6, .inl (fun _ => 0))), (q12, .inl (cy 0, 6, .inl (fun _ => 0))), (q13, .inl (cy 0, 6, .inl (fun _ => 0))), (q14, .inl (cy 0, 6, .inl (fun _ => 0)))] H := hP
  have hD : va_D A [(h0, .inr (0, [.ref q1, .null, .ref q7, .ref q8, .ref q9, .ref q10, .ref q11, .ref q12, .ref q13, .null, .null, .null, .int 0, .int 0, .int 0, .int 0, .int 0])), (q1, .inr (4, [.ref q2, .ref q3, .ref q4, .ref q5, .ref q6, .int 0, .int 0])), (q2, .inl (cy 0, 6, .inl (upd (upd (upd (upd (upd (upd (fun _ => 0) (0 : Int32).toNatClampNeg 18) (1 : Int32).toNatClampNeg 0) (2 : Int32).toNatClampNeg 0) (3 : Int32).toNatClampNeg 1) (4 : Int32).toNatClampNeg 0) (5 : Int32).toNatClampNeg 0))), (q3, .inl (cy 0, 6, .inl (fun _ => 0))), (q4, .inl (cy 0, 6, .inl (fun _ => 0))), (q5, .inl (cy 0, 6, .inl (fun _ => 0))), (q6, .inl (cy 0, 6, .inl (fun _ => 0))), (q7, .inl (cy 0, 160, .inl (fun _ => 0))), (q8, .inl (cy 0, 6, .inl (fun _ => 0))), (q9, .inl (cy 0, 6, .inl (fun _ => 0))), (q10, .inl (cy 0, 6, .inl (fun _ => 0))), (q11, .inl (cy 0, 6, .inl (fun _ => 0))), (q12, .inl (cy 0, 6, .inl (fun _ => 0))), (q13, .inl (cy 0, 6, .inl (fun _ => 0))), (q14, .inl (cy 0, 6, .inl (fun _ => 0)))] := hD
  refine W.widen (k := 14) (n := 239) (Nat.le_of_ble_eq_true rfl) (Nat.le_of_ble_eq_true rfl) ?_
  refine va_putF (D := (dC, dI)) (ci := 0) (v := .ref q14) (ty := (.array .int)) (C := RX0) (T := TX0) (N := 17) hx hb hts gc_X0 tyX0 tyX0_ok nmX0 hown hK hP hD hS 0 rfl rfl 9 (by decide) (hts (.fieldLink RX0 40 "BeforeItGoes$Day" "ripe" "[I") (gt_of 245 (by decide +kernel) rfl)) (fun _ h9 => h9) rfl hin rfl (by decide +kernel) rfl rfl (Nat.le_of_ble_eq_true rfl) dX0_init_77 (fun H locs hP hD hS => ?_)
  have hP : va_P (dC, dI) vwCl [(h0, .inr (0, [.ref q1, .null, .ref q7, .ref q8, .ref q9, .ref q10, .ref q11, .ref q12, .ref q13, .ref q14, .null, .null, .int 0, .int 0, .int 0, .int 0, .int 0])), (q1, .inr (4, [.ref q2, .ref q3, .ref q4, .ref q5, .ref q6, .int 0, .int 0])), (q2, .inl (cy 0, 6, .inl (upd (upd (upd (upd (upd (upd (fun _ => 0) (0 : Int32).toNatClampNeg 18) (1 : Int32).toNatClampNeg 0) (2 : Int32).toNatClampNeg 0) (3 : Int32).toNatClampNeg 1) (4 : Int32).toNatClampNeg 0) (5 : Int32).toNatClampNeg 0))), (q3, .inl (cy 0, 6, .inl (fun _ => 0))), (q4, .inl (cy 0, 6, .inl (fun _ => 0))), (q5, .inl (cy 0, 6, .inl (fun _ => 0))), (q6, .inl (cy 0, 6, .inl (fun _ => 0))), (q7, .inl (cy 0, 160, .inl (fun _ => 0))), (q8, .inl (cy 0, 6, .inl (fun _ => 0))), (q9, .inl (cy 0, 6, .inl (fun _ => 0))), (q10, .inl (cy 0, 6, .inl (fun _ => 0))), (q11, .inl (cy 0, 6, .inl (fun _ => 0))), (q12, .inl (cy 0, 6, .inl (fun _ => 0))), (q13, .inl (cy 0, 6, .inl (fun _ => 0))), (q14, .inl (cy 0, 6, .inl (fun _ => 0)))] H := hP
  have hD : va_D A [(h0, .inr (0, [.ref q1, .null, .ref q7, .ref q8, .ref q9, .ref q10, .ref q11, .ref q12, .ref q13, .ref q14, .null, .null, .int 0, .int 0, .int 0, .int 0, .int 0])), (q1, .inr (4, [.ref q2, .ref q3, .ref q4, .ref q5, .ref q6, .int 0, .int 0])), (q2, .inl (cy 0, 6, .inl (upd (upd (upd (upd (upd (upd (fun _ => 0) (0 : Int32).toNatClampNeg 18) (1 : Int32).toNatClampNeg 0) (2 : Int32).toNatClampNeg 0) (3 : Int32).toNatClampNeg 1) (4 : Int32).toNatClampNeg 0) (5 : Int32).toNatClampNeg 0))), (q3, .inl (cy 0, 6, .inl (fun _ => 0))), (q4, .inl (cy 0, 6, .inl (fun _ => 0))), (q5, .inl (cy 0, 6, .inl (fun _ => 0))), (q6, .inl (cy 0, 6, .inl (fun _ => 0))), (q7, .inl (cy 0, 160, .inl (fun _ => 0))), (q8, .inl (cy 0, 6, .inl (fun _ => 0))), (q9, .inl (cy 0, 6, .inl (fun _ => 0))), (q10, .inl (cy 0, 6, .inl (fun _ => 0))), (q11, .inl (cy 0, 6, .inl (fun _ => 0))), (q12, .inl (cy 0, 6, .inl (fun _ => 0))), (q13, .inl (cy 0, 6, .inl (fun _ => 0))), (q14, .inl (cy 0, 6, .inl (fun _ => 0)))] := hD
  refine lv_aload_n hx hb dX0_init_80 rfl (lv_at hl 0 rfl) ?_
  refine lv_bipush (v := 6) hx hb dX0_init_81 bp_6 ?_
  refine n_newi hx hb (hts _ (gt_of 150 (by decide +kernel) rfl)) hK hP hD hS hA (N' := 6) (by decide) (by decide) (Nat.le_of_ble_eq_true rfl) (Nat.le_of_ble_eq_true rfl) (Nat.le_of_ble_eq_true rfl) dX0_init_83 (fun q15 H hP hD hS => ?_)
  have hP : va_P (dC, dI) vwCl [(h0, .inr (0, [.ref q1, .null, .ref q7, .ref q8, .ref q9, .ref q10, .ref q11, .ref q12, .ref q13, .ref q14, .null, .null, .int 0, .int 0, .int 0, .int 0, .int 0])), (q1, .inr (4, [.ref q2, .ref q3, .ref q4, .ref q5, .ref q6, .int 0, .int 0])), (q2, .inl (cy 0, 6, .inl (upd (upd (upd (upd (upd (upd (fun _ => 0) (0 : Int32).toNatClampNeg 18) (1 : Int32).toNatClampNeg 0) (2 : Int32).toNatClampNeg 0) (3 : Int32).toNatClampNeg 1) (4 : Int32).toNatClampNeg 0) (5 : Int32).toNatClampNeg 0))), (q3, .inl (cy 0, 6, .inl (fun _ => 0))), (q4, .inl (cy 0, 6, .inl (fun _ => 0))), (q5, .inl (cy 0, 6, .inl (fun _ => 0))), (q6, .inl (cy 0, 6, .inl (fun _ => 0))), (q7, .inl (cy 0, 160, .inl (fun _ => 0))), (q8, .inl (cy 0, 6, .inl (fun _ => 0))), (q9, .inl (cy 0, 6, .inl (fun _ => 0))), (q10, .inl (cy 0, 6, .inl (fun _ => 0))), (q11, .inl (cy 0, 6, .inl (fun _ => 0))), (q12, .inl (cy 0, 6, .inl (fun _ => 0))), (q13, .inl (cy 0, 6, .inl (fun _ => 0))), (q14, .inl (cy 0, 6, .inl (fun _ => 0))), (q15, .inl (cy 0, 6, .inl (fun _ => 0)))] H := hP
  have hD : va_D A [(h0, .inr (0, [.ref q1, .null, .ref q7, .ref q8, .ref q9, .ref q10, .ref q11, .ref q12, .ref q13, .ref q14, .null, .null, .int 0, .int 0, .int 0, .int 0, .int 0])), (q1, .inr (4, [.ref q2, .ref q3, .ref q4, .ref q5, .ref q6, .int 0, .int 0])), (q2, .inl (cy 0, 6, .inl (upd (upd (upd (upd (upd (upd (fun _ => 0) (0 : Int32).toNatClampNeg 18) (1 : Int32).toNatClampNeg 0) (2 : Int32).toNatClampNeg 0) (3 : Int32).toNatClampNeg 1) (4 : Int32).toNatClampNeg 0) (5 : Int32).toNatClampNeg 0))), (q3, .inl (cy 0, 6, .inl (fun _ => 0))), (q4, .inl (cy 0, 6, .inl (fun _ => 0))), (q5, .inl (cy 0, 6, .inl (fun _ => 0))), (q6, .inl (cy 0, 6, .inl (fun _ => 0))), (q7, .inl (cy 0, 160, .inl (fun _ => 0))), (q8, .inl (cy 0, 6, .inl (fun _ => 0))), (q9, .inl (cy 0, 6, .inl (fun _ => 0))), (q10, .inl (cy 0, 6, .inl (fun _ => 0))), (q11, .inl (cy 0, 6, .inl (fun _ => 0))), (q12, .inl (cy 0, 6, .inl (fun _ => 0))), (q13, .inl (cy 0, 6, .inl (fun _ => 0))), (q14, .inl (cy 0, 6, .inl (fun _ => 0))), (q15, .inl (cy 0, 6, .inl (fun _ => 0)))] := hD
  refine W.widen (k := 15) (n := 245) (Nat.le_of_ble_eq_true rfl) (Nat.le_of_ble_eq_true rfl) ?_
  refine va_putF (D := (dC, dI)) (ci := 0) (v := .ref q15) (ty := (.array .int)) (C := RX0) (T := TX0) (N := 17) hx hb hts gc_X0 tyX0 tyX0_ok nmX0 hown hK hP hD hS 0 rfl rfl 10 (by decide) (hts (.fieldLink RX0 43 "BeforeItGoes$Day" "trowelled" "[I") (gt_of 247 (by decide +kernel) rfl)) (fun _ h9 => h9) rfl hin rfl (by decide +kernel) rfl rfl (Nat.le_of_ble_eq_true rfl) dX0_init_85 (fun H locs hP hD hS => ?_)
  have hP : va_P (dC, dI) vwCl [(h0, .inr (0, [.ref q1, .null, .ref q7, .ref q8, .ref q9, .ref q10, .ref q11, .ref q12, .ref q13, .ref q14, .ref q15, .null, .int 0, .int 0, .int 0, .int 0, .int 0])), (q1, .inr (4, [.ref q2, .ref q3, .ref q4, .ref q5, .ref q6, .int 0, .int 0])), (q2, .inl (cy 0, 6, .inl (upd (upd (upd (upd (upd (upd (fun _ => 0) (0 : Int32).toNatClampNeg 18) (1 : Int32).toNatClampNeg 0) (2 : Int32).toNatClampNeg 0) (3 : Int32).toNatClampNeg 1) (4 : Int32).toNatClampNeg 0) (5 : Int32).toNatClampNeg 0))), (q3, .inl (cy 0, 6, .inl (fun _ => 0))), (q4, .inl (cy 0, 6, .inl (fun _ => 0))), (q5, .inl (cy 0, 6, .inl (fun _ => 0))), (q6, .inl (cy 0, 6, .inl (fun _ => 0))), (q7, .inl (cy 0, 160, .inl (fun _ => 0))), (q8, .inl (cy 0, 6, .inl (fun _ => 0))), (q9, .inl (cy 0, 6, .inl (fun _ => 0))), (q10, .inl (cy 0, 6, .inl (fun _ => 0))), (q11, .inl (cy 0, 6, .inl (fun _ => 0))), (q12, .inl (cy 0, 6, .inl (fun _ => 0))), (q13, .inl (cy 0, 6, .inl (fun _ => 0))), (q14, .inl (cy 0, 6, .inl (fun _ => 0))), (q15, .inl (cy 0, 6, .inl (fun _ => 0)))] H := hP
  have hD : va_D A [(h0, .inr (0, [.ref q1, .null, .ref q7, .ref q8, .ref q9, .ref q10, .ref q11, .ref q12, .ref q13, .ref q14, .ref q15, .null, .int 0, .int 0, .int 0, .int 0, .int 0])), (q1, .inr (4, [.ref q2, .ref q3, .ref q4, .ref q5, .ref q6, .int 0, .int 0])), (q2, .inl (cy 0, 6, .inl (upd (upd (upd (upd (upd (upd (fun _ => 0) (0 : Int32).toNatClampNeg 18) (1 : Int32).toNatClampNeg 0) (2 : Int32).toNatClampNeg 0) (3 : Int32).toNatClampNeg 1) (4 : Int32).toNatClampNeg 0) (5 : Int32).toNatClampNeg 0))), (q3, .inl (cy 0, 6, .inl (fun _ => 0))), (q4, .inl (cy 0, 6, .inl (fun _ => 0))), (q5, .inl (cy 0, 6, .inl (fun _ => 0))), (q6, .inl (cy 0, 6, .inl (fun _ => 0))), (q7, .inl (cy 0, 160, .inl (fun _ => 0))), (q8, .inl (cy 0, 6, .inl (fun _ => 0))), (q9, .inl (cy 0, 6, .inl (fun _ => 0))), (q10, .inl (cy 0, 6, .inl (fun _ => 0))), (q11, .inl (cy 0, 6, .inl (fun _ => 0))), (q12, .inl (cy 0, 6, .inl (fun _ => 0))), (q13, .inl (cy 0, 6, .inl (fun _ => 0))), (q14, .inl (cy 0, 6, .inl (fun _ => 0))), (q15, .inl (cy 0, 6, .inl (fun _ => 0)))] := hD
  refine lv_aload_n hx hb dX0_init_88 rfl (lv_at hl 0 rfl) ?_
  refine lv_bipush (v := 6) hx hb dX0_init_89 bp_6 ?_
  refine n_newi hx hb (hts _ (gt_of 150 (by decide +kernel) rfl)) hK hP hD hS hA (N' := 6) (by decide) (by decide) (Nat.le_of_ble_eq_true rfl) (Nat.le_of_ble_eq_true rfl) (Nat.le_of_ble_eq_true rfl) dX0_init_91 (fun q16 H hP hD hS => ?_)
  have hP : va_P (dC, dI) vwCl [(h0, .inr (0, [.ref q1, .null, .ref q7, .ref q8, .ref q9, .ref q10, .ref q11, .ref q12, .ref q13, .ref q14, .ref q15, .null, .int 0, .int 0, .int 0, .int 0, .int 0])), (q1, .inr (4, [.ref q2, .ref q3, .ref q4, .ref q5, .ref q6, .int 0, .int 0])), (q2, .inl (cy 0, 6, .inl (upd (upd (upd (upd (upd (upd (fun _ => 0) (0 : Int32).toNatClampNeg 18) (1 : Int32).toNatClampNeg 0) (2 : Int32).toNatClampNeg 0) (3 : Int32).toNatClampNeg 1) (4 : Int32).toNatClampNeg 0) (5 : Int32).toNatClampNeg 0))), (q3, .inl (cy 0, 6, .inl (fun _ => 0))), (q4, .inl (cy 0, 6, .inl (fun _ => 0))), (q5, .inl (cy 0, 6, .inl (fun _ => 0))), (q6, .inl (cy 0, 6, .inl (fun _ => 0))), (q7, .inl (cy 0, 160, .inl (fun _ => 0))), (q8, .inl (cy 0, 6, .inl (fun _ => 0))), (q9, .inl (cy 0, 6, .inl (fun _ => 0))), (q10, .inl (cy 0, 6, .inl (fun _ => 0))), (q11, .inl (cy 0, 6, .inl (fun _ => 0))), (q12, .inl (cy 0, 6, .inl (fun _ => 0))), (q13, .inl (cy 0, 6, .inl (fun _ => 0))), (q14, .inl (cy 0, 6, .inl (fun _ => 0))), (q15, .inl (cy 0, 6, .inl (fun _ => 0))), (q16, .inl (cy 0, 6, .inl (fun _ => 0)))] H := hP
  have hD : va_D A [(h0, .inr (0, [.ref q1, .null, .ref q7, .ref q8, .ref q9, .ref q10, .ref q11, .ref q12, .ref q13, .ref q14, .ref q15, .null, .int 0, .int 0, .int 0, .int 0, .int 0])), (q1, .inr (4, [.ref q2, .ref q3, .ref q4, .ref q5, .ref q6, .int 0, .int 0])), (q2, .inl (cy 0, 6, .inl (upd (upd (upd (upd (upd (upd (fun _ => 0) (0 : Int32).toNatClampNeg 18) (1 : Int32).toNatClampNeg 0) (2 : Int32).toNatClampNeg 0) (3 : Int32).toNatClampNeg 1) (4 : Int32).toNatClampNeg 0) (5 : Int32).toNatClampNeg 0))), (q3, .inl (cy 0, 6, .inl (fun _ => 0))), (q4, .inl (cy 0, 6, .inl (fun _ => 0))), (q5, .inl (cy 0, 6, .inl (fun _ => 0))), (q6, .inl (cy 0, 6, .inl (fun _ => 0))), (q7, .inl (cy 0, 160, .inl (fun _ => 0))), (q8, .inl (cy 0, 6, .inl (fun _ => 0))), (q9, .inl (cy 0, 6, .inl (fun _ => 0))), (q10, .inl (cy 0, 6, .inl (fun _ => 0))), (q11, .inl (cy 0, 6, .inl (fun _ => 0))), (q12, .inl (cy 0, 6, .inl (fun _ => 0))), (q13, .inl (cy 0, 6, .inl (fun _ => 0))), (q14, .inl (cy 0, 6, .inl (fun _ => 0))), (q15, .inl (cy 0, 6, .inl (fun _ => 0))), (q16, .inl (cy 0, 6, .inl (fun _ => 0)))] := hD
  refine W.widen (k := 16) (n := 251) (Nat.le_of_ble_eq_true rfl) (Nat.le_of_ble_eq_true rfl) ?_
  refine va_putF (D := (dC, dI)) (ci := 0) (v := .ref q16) (ty := (.array .int)) (C := RX0) (T := TX0) (N := 17) hx hb hts gc_X0 tyX0 tyX0_ok nmX0 hown hK hP hD hS 0 rfl rfl 11 (by decide) (hts (.fieldLink RX0 46 "BeforeItGoes$Day" "off" "[I") (gt_of 249 (by decide +kernel) rfl)) (fun _ h9 => h9) rfl hin rfl (by decide +kernel) rfl rfl (Nat.le_of_ble_eq_true rfl) dX0_init_93 (fun H locs hP hD hS => ?_)
  have hP : va_P (dC, dI) vwCl [(h0, .inr (0, [.ref q1, .null, .ref q7, .ref q8, .ref q9, .ref q10, .ref q11, .ref q12, .ref q13, .ref q14, .ref q15, .ref q16, .int 0, .int 0, .int 0, .int 0, .int 0])), (q1, .inr (4, [.ref q2, .ref q3, .ref q4, .ref q5, .ref q6, .int 0, .int 0])), (q2, .inl (cy 0, 6, .inl (upd (upd (upd (upd (upd (upd (fun _ => 0) (0 : Int32).toNatClampNeg 18) (1 : Int32).toNatClampNeg 0) (2 : Int32).toNatClampNeg 0) (3 : Int32).toNatClampNeg 1) (4 : Int32).toNatClampNeg 0) (5 : Int32).toNatClampNeg 0))), (q3, .inl (cy 0, 6, .inl (fun _ => 0))), (q4, .inl (cy 0, 6, .inl (fun _ => 0))), (q5, .inl (cy 0, 6, .inl (fun _ => 0))), (q6, .inl (cy 0, 6, .inl (fun _ => 0))), (q7, .inl (cy 0, 160, .inl (fun _ => 0))), (q8, .inl (cy 0, 6, .inl (fun _ => 0))), (q9, .inl (cy 0, 6, .inl (fun _ => 0))), (q10, .inl (cy 0, 6, .inl (fun _ => 0))), (q11, .inl (cy 0, 6, .inl (fun _ => 0))), (q12, .inl (cy 0, 6, .inl (fun _ => 0))), (q13, .inl (cy 0, 6, .inl (fun _ => 0))), (q14, .inl (cy 0, 6, .inl (fun _ => 0))), (q15, .inl (cy 0, 6, .inl (fun _ => 0))), (q16, .inl (cy 0, 6, .inl (fun _ => 0)))] H := hP
  have hD : va_D A [(h0, .inr (0, [.ref q1, .null, .ref q7, .ref q8, .ref q9, .ref q10, .ref q11, .ref q12, .ref q13, .ref q14, .ref q15, .ref q16, .int 0, .int 0, .int 0, .int 0, .int 0])), (q1, .inr (4, [.ref q2, .ref q3, .ref q4, .ref q5, .ref q6, .int 0, .int 0])), (q2, .inl (cy 0, 6, .inl (upd (upd (upd (upd (upd (upd (fun _ => 0) (0 : Int32).toNatClampNeg 18) (1 : Int32).toNatClampNeg 0) (2 : Int32).toNatClampNeg 0) (3 : Int32).toNatClampNeg 1) (4 : Int32).toNatClampNeg 0) (5 : Int32).toNatClampNeg 0))), (q3, .inl (cy 0, 6, .inl (fun _ => 0))), (q4, .inl (cy 0, 6, .inl (fun _ => 0))), (q5, .inl (cy 0, 6, .inl (fun _ => 0))), (q6, .inl (cy 0, 6, .inl (fun _ => 0))), (q7, .inl (cy 0, 160, .inl (fun _ => 0))), (q8, .inl (cy 0, 6, .inl (fun _ => 0))), (q9, .inl (cy 0, 6, .inl (fun _ => 0))), (q10, .inl (cy 0, 6, .inl (fun _ => 0))), (q11, .inl (cy 0, 6, .inl (fun _ => 0))), (q12, .inl (cy 0, 6, .inl (fun _ => 0))), (q13, .inl (cy 0, 6, .inl (fun _ => 0))), (q14, .inl (cy 0, 6, .inl (fun _ => 0))), (q15, .inl (cy 0, 6, .inl (fun _ => 0))), (q16, .inl (cy 0, 6, .inl (fun _ => 0)))] := hD
  refine lv_aload_n hx hb dX0_init_96 rfl (lv_at hl 0 rfl) ?_
  refine lv_aload_n hx hb dX0_init_97 rfl (lv_at hl 1 rfl) ?_
  refine va_putF (D := (dC, dI)) (ci := 0) (v := .ref p1) (ty := (.array (.object "BeforeItGoes$Text"))) (C := RX0) (T := TX0) (N := 17) hx hb hts gc_X0 tyX0 tyX0_ok nmX0 hown hK hP hD hS 0 rfl rfl 1 (by decide) (hts (.fieldLink RX0 49 "BeforeItGoes$Day" "texts" "[LBeforeItGoes$Text;") (gt_of 233 (by decide +kernel) rfl)) (fun _ h9 => h9) rfl hin rfl (by decide +kernel) rfl rfl (Nat.le_of_ble_eq_true rfl) dX0_init_98 (fun H locs hP hD hS => ?_)
  have hP : va_P (dC, dI) vwCl [(h0, .inr (0, [.ref q1, .ref p1, .ref q7, .ref q8, .ref q9, .ref q10, .ref q11, .ref q12, .ref q13, .ref q14, .ref q15, .ref q16, .int 0, .int 0, .int 0, .int 0, .int 0])), (q1, .inr (4, [.ref q2, .ref q3, .ref q4, .ref q5, .ref q6, .int 0, .int 0])), (q2, .inl (cy 0, 6, .inl (upd (upd (upd (upd (upd (upd (fun _ => 0) (0 : Int32).toNatClampNeg 18) (1 : Int32).toNatClampNeg 0) (2 : Int32).toNatClampNeg 0) (3 : Int32).toNatClampNeg 1) (4 : Int32).toNatClampNeg 0) (5 : Int32).toNatClampNeg 0))), (q3, .inl (cy 0, 6, .inl (fun _ => 0))), (q4, .inl (cy 0, 6, .inl (fun _ => 0))), (q5, .inl (cy 0, 6, .inl (fun _ => 0))), (q6, .inl (cy 0, 6, .inl (fun _ => 0))), (q7, .inl (cy 0, 160, .inl (fun _ => 0))), (q8, .inl (cy 0, 6, .inl (fun _ => 0))), (q9, .inl (cy 0, 6, .inl (fun _ => 0))), (q10, .inl (cy 0, 6, .inl (fun _ => 0))), (q11, .inl (cy 0, 6, .inl (fun _ => 0))), (q12, .inl (cy 0, 6, .inl (fun _ => 0))), (q13, .inl (cy 0, 6, .inl (fun _ => 0))), (q14, .inl (cy 0, 6, .inl (fun _ => 0))), (q15, .inl (cy 0, 6, .inl (fun _ => 0))), (q16, .inl (cy 0, 6, .inl (fun _ => 0)))] H := hP
  have hD : va_D A [(h0, .inr (0, [.ref q1, .ref p1, .ref q7, .ref q8, .ref q9, .ref q10, .ref q11, .ref q12, .ref q13, .ref q14, .ref q15, .ref q16, .int 0, .int 0, .int 0, .int 0, .int 0])), (q1, .inr (4, [.ref q2, .ref q3, .ref q4, .ref q5, .ref q6, .int 0, .int 0])), (q2, .inl (cy 0, 6, .inl (upd (upd (upd (upd (upd (upd (fun _ => 0) (0 : Int32).toNatClampNeg 18) (1 : Int32).toNatClampNeg 0) (2 : Int32).toNatClampNeg 0) (3 : Int32).toNatClampNeg 1) (4 : Int32).toNatClampNeg 0) (5 : Int32).toNatClampNeg 0))), (q3, .inl (cy 0, 6, .inl (fun _ => 0))), (q4, .inl (cy 0, 6, .inl (fun _ => 0))), (q5, .inl (cy 0, 6, .inl (fun _ => 0))), (q6, .inl (cy 0, 6, .inl (fun _ => 0))), (q7, .inl (cy 0, 160, .inl (fun _ => 0))), (q8, .inl (cy 0, 6, .inl (fun _ => 0))), (q9, .inl (cy 0, 6, .inl (fun _ => 0))), (q10, .inl (cy 0, 6, .inl (fun _ => 0))), (q11, .inl (cy 0, 6, .inl (fun _ => 0))), (q12, .inl (cy 0, 6, .inl (fun _ => 0))), (q13, .inl (cy 0, 6, .inl (fun _ => 0))), (q14, .inl (cy 0, 6, .inl (fun _ => 0))), (q15, .inl (cy 0, 6, .inl (fun _ => 0))), (q16, .inl (cy 0, 6, .inl (fun _ => 0)))] := hD
  refine W.widen (k := 16) (n := 251) (Nat.le_of_ble_eq_true rfl) (Nat.le_of_ble_eq_true rfl) ?_
  exact W.vret hx hb hr (fun t ht hW => ⟨⟨(), rfl, trivial, q1, q2, q3, q4, q5, q6, q7, q8, q9, q10, q11, q12, q13, q14, q15, q16, by rw [ht]; exact hP, hD⟩, hS.F ht⟩) hS.2.2 dX0_init_101
end
