section
-- ===== PART A: goes FIRST, ahead of the names: the tables' words, and 'selects' of the private methods out of them =====
/-- a private method of a class that the tables say can be made, by its rows of tables_1 -/
def lw_okq (q : MethodName × Nat) : Prop := (q.1.cls ≠ "java/lang/invoke/MethodHandle" ∧ q.1.cls ≠ "java/lang/invoke/VarHandle") ∧ Cond.instantiable q.1.cls q.2 ∈ tables_1 ∧ Cond.privateMethod q.1 ∈ tables_1 ∧ Cond.instanceMethod q.1 ∈ tables_1
theorem lw_p0 : lw_okq (⟨"PointingArms", "readThing", "()V"⟩, 10) := ⟨⟨by decide +kernel, by decide +kernel⟩, List.mem_of_getElem? (i := 15) (by decide +kernel), List.mem_of_getElem? (i := 324) (by decide +kernel), List.mem_of_getElem? (i := 325) (by decide +kernel)⟩
theorem lw_p1 : lw_okq (⟨"PointingArms$Tape", "next", "()I"⟩, 4) := ⟨⟨by decide +kernel, by decide +kernel⟩, List.mem_of_getElem? (i := 107) (by decide +kernel), List.mem_of_getElem? (i := 336) (by decide +kernel), List.mem_of_getElem? (i := 337) (by decide +kernel)⟩
theorem lw_p2 : lw_okq (⟨"PointingArms", "readSentence", "(I)V"⟩, 10) := ⟨⟨by decide +kernel, by decide +kernel⟩, List.mem_of_getElem? (i := 15) (by decide +kernel), List.mem_of_getElem? (i := 384) (by decide +kernel), List.mem_of_getElem? (i := 385) (by decide +kernel)⟩
theorem lw_p3 : lw_okq (⟨"PointingArms", "readArm", "(I)V"⟩, 10) := ⟨⟨by decide +kernel, by decide +kernel⟩, List.mem_of_getElem? (i := 15) (by decide +kernel), List.mem_of_getElem? (i := 388) (by decide +kernel), List.mem_of_getElem? (i := 389) (by decide +kernel)⟩
theorem lw_p4 : lw_okq (⟨"PointingArms", "meaningOf", "(IIII)I"⟩, 10) := ⟨⟨by decide +kernel, by decide +kernel⟩, List.mem_of_getElem? (i := 15) (by decide +kernel), List.mem_of_getElem? (i := 441) (by decide +kernel), List.mem_of_getElem? (i := 442) (by decide +kernel)⟩
theorem lw_p5 : lw_okq (⟨"PointingArms", "metBy", "(IIII)I"⟩, 10) := ⟨⟨by decide +kernel, by decide +kernel⟩, List.mem_of_getElem? (i := 15) (by decide +kernel), List.mem_of_getElem? (i := 445) (by decide +kernel), List.mem_of_getElem? (i := 446) (by decide +kernel)⟩
theorem lw_p6 : lw_okq (⟨"PointingArms$Field", "isAhead", "(IIIII)Z"⟩, 6) := ⟨⟨by decide +kernel, by decide +kernel⟩, List.mem_of_getElem? (i := 46) (by decide +kernel), List.mem_of_getElem? (i := 458) (by decide +kernel), List.mem_of_getElem? (i := 459) (by decide +kernel)⟩
theorem lw_p7 : lw_okq (⟨"PointingArms", "meaningOfSentence", "(II)I"⟩, 10) := ⟨⟨by decide +kernel, by decide +kernel⟩, List.mem_of_getElem? (i := 15) (by decide +kernel), List.mem_of_getElem? (i := 470) (by decide +kernel), List.mem_of_getElem? (i := 471) (by decide +kernel)⟩
theorem lw_p8 : lw_okq (⟨"PointingArms", "areTwo", "(II)Z"⟩, 10) := ⟨⟨by decide +kernel, by decide +kernel⟩, List.mem_of_getElem? (i := 15) (by decide +kernel), List.mem_of_getElem? (i := 495) (by decide +kernel), List.mem_of_getElem? (i := 496) (by decide +kernel)⟩
theorem lw_p9 : lw_okq (⟨"PointingArms", "isSet", "(I)Z"⟩, 10) := ⟨⟨by decide +kernel, by decide +kernel⟩, List.mem_of_getElem? (i := 15) (by decide +kernel), List.mem_of_getElem? (i := 528) (by decide +kernel), List.mem_of_getElem? (i := 529) (by decide +kernel)⟩
theorem lw_p10 : lw_okq (⟨"PointingArms$Cover", "collect", "(LPointingArms$Field;LPointingArms$Fan;III)Z"⟩, 3) := ⟨⟨by decide +kernel, by decide +kernel⟩, List.mem_of_getElem? (i := 130) (by decide +kernel), List.mem_of_getElem? (i := 536) (by decide +kernel), List.mem_of_getElem? (i := 537) (by decide +kernel)⟩
theorem lw_p11 : lw_okq (⟨"PointingArms$Cover", "note", "(I)V"⟩, 3) := ⟨⟨by decide +kernel, by decide +kernel⟩, List.mem_of_getElem? (i := 130) (by decide +kernel), List.mem_of_getElem? (i := 550) (by decide +kernel), List.mem_of_getElem? (i := 551) (by decide +kernel)⟩
theorem lw_p12 : lw_okq (⟨"PointingArms$Cover", "goOnFrom", "(I)V"⟩, 3) := ⟨⟨by decide +kernel, by decide +kernel⟩, List.mem_of_getElem? (i := 130) (by decide +kernel), List.mem_of_getElem? (i := 554) (by decide +kernel), List.mem_of_getElem? (i := 555) (by decide +kernel)⟩
theorem lw_p13 : lw_okq (⟨"PointingArms", "asideAt", "(IIIII)I"⟩, 10) := ⟨⟨by decide +kernel, by decide +kernel⟩, List.mem_of_getElem? (i := 15) (by decide +kernel), List.mem_of_getElem? (i := 562) (by decide +kernel), List.mem_of_getElem? (i := 563) (by decide +kernel)⟩
theorem lw_p14 : lw_okq (⟨"PointingArms", "couldStand", "(II)Z"⟩, 10) := ⟨⟨by decide +kernel, by decide +kernel⟩, List.mem_of_getElem? (i := 15) (by decide +kernel), List.mem_of_getElem? (i := 577) (by decide +kernel), List.mem_of_getElem? (i := 578) (by decide +kernel)⟩
theorem lw_p15 : lw_okq (⟨"PointingArms$Layout", "bring", "(LPointingArms$Field;I)V"⟩, 3) := ⟨⟨by decide +kernel, by decide +kernel⟩, List.mem_of_getElem? (i := 146) (by decide +kernel), List.mem_of_getElem? (i := 593) (by decide +kernel), List.mem_of_getElem? (i := 594) (by decide +kernel)⟩
def lw_privs_1 : List (MethodName × Nat) := [(⟨"PointingArms", "readThing", "()V"⟩, 10), (⟨"PointingArms$Tape", "next", "()I"⟩, 4), (⟨"PointingArms", "readSentence", "(I)V"⟩, 10), (⟨"PointingArms", "readArm", "(I)V"⟩, 10), (⟨"PointingArms", "meaningOf", "(IIII)I"⟩, 10), (⟨"PointingArms", "metBy", "(IIII)I"⟩, 10), (⟨"PointingArms$Field", "isAhead", "(IIIII)Z"⟩, 6), (⟨"PointingArms", "meaningOfSentence", "(II)I"⟩, 10), (⟨"PointingArms", "areTwo", "(II)Z"⟩, 10), (⟨"PointingArms", "isSet", "(I)Z"⟩, 10), (⟨"PointingArms$Cover", "collect", "(LPointingArms$Field;LPointingArms$Fan;III)Z"⟩, 3), (⟨"PointingArms$Cover", "note", "(I)V"⟩, 3), (⟨"PointingArms$Cover", "goOnFrom", "(I)V"⟩, 3), (⟨"PointingArms", "asideAt", "(IIIII)I"⟩, 10), (⟨"PointingArms", "couldStand", "(II)Z"⟩, 10), (⟨"PointingArms$Layout", "bring", "(LPointingArms$Field;I)V"⟩, 3)]
theorem lw_r1 : ∀ q ∈ lw_privs_1, lw_okq q := List.forall_mem_cons.mpr ⟨lw_p0, List.forall_mem_cons.mpr ⟨lw_p1, List.forall_mem_cons.mpr ⟨lw_p2, List.forall_mem_cons.mpr ⟨lw_p3, List.forall_mem_cons.mpr ⟨lw_p4, List.forall_mem_cons.mpr ⟨lw_p5, List.forall_mem_cons.mpr ⟨lw_p6, List.forall_mem_cons.mpr ⟨lw_p7, List.forall_mem_cons.mpr ⟨lw_p8, List.forall_mem_cons.mpr ⟨lw_p9, List.forall_mem_cons.mpr ⟨lw_p10, List.forall_mem_cons.mpr ⟨lw_p11, List.forall_mem_cons.mpr ⟨lw_p12, List.forall_mem_cons.mpr ⟨lw_p13, List.forall_mem_cons.mpr ⟨lw_p14, List.forall_mem_cons.mpr ⟨lw_p15, fun _ h => absurd h List.not_mem_nil⟩⟩⟩⟩⟩⟩⟩⟩⟩⟩⟩⟩⟩⟩⟩⟩
theorem lw_p16 : lw_okq (⟨"PointingArms$Layout", "choose", "(III)Z"⟩, 3) := ⟨⟨by decide +kernel, by decide +kernel⟩, List.mem_of_getElem? (i := 146) (by decide +kernel), List.mem_of_getElem? (i := 605) (by decide +kernel), List.mem_of_getElem? (i := 606) (by decide +kernel)⟩
theorem lw_p17 : lw_okq (⟨"PointingArms$Layout", "lay", "(LPointingArms$Rows;III)I"⟩, 3) := ⟨⟨by decide +kernel, by decide +kernel⟩, List.mem_of_getElem? (i := 146) (by decide +kernel), List.mem_of_getElem? (i := 610) (by decide +kernel), List.mem_of_getElem? (i := 611) (by decide +kernel)⟩
theorem lw_p18 : lw_okq (⟨"PointingArms$Layout", "eachAlone", "(LPointingArms$Fan;III)Z"⟩, 3) := ⟨⟨by decide +kernel, by decide +kernel⟩, List.mem_of_getElem? (i := 146) (by decide +kernel), List.mem_of_getElem? (i := 617) (by decide +kernel), List.mem_of_getElem? (i := 618) (by decide +kernel)⟩
theorem lw_p19 : lw_okq (⟨"PointingArms", "sheetOf", "(I)LPointingArms$Sheet;"⟩, 10) := ⟨⟨by decide +kernel, by decide +kernel⟩, List.mem_of_getElem? (i := 15) (by decide +kernel), List.mem_of_getElem? (i := 650) (by decide +kernel), List.mem_of_getElem? (i := 651) (by decide +kernel)⟩
theorem lw_p20 : lw_okq (⟨"PointingArmsModel", "comes", "(IIII)V"⟩, 31) := ⟨⟨by decide +kernel, by decide +kernel⟩, List.mem_of_getElem? (i := 712) (by decide +kernel), List.mem_of_getElem? (i := 827) (by decide +kernel), List.mem_of_getElem? (i := 828) (by decide +kernel)⟩
theorem lw_p21 : lw_okq (⟨"PointingArmsModel", "isThing", "(I)Z"⟩, 31) := ⟨⟨by decide +kernel, by decide +kernel⟩, List.mem_of_getElem? (i := 712) (by decide +kernel), List.mem_of_getElem? (i := 838) (by decide +kernel), List.mem_of_getElem? (i := 839) (by decide +kernel)⟩
theorem lw_p22 : lw_okq (⟨"PointingArmsModel", "middle", "(III)I"⟩, 31) := ⟨⟨by decide +kernel, by decide +kernel⟩, List.mem_of_getElem? (i := 712) (by decide +kernel), List.mem_of_getElem? (i := 851) (by decide +kernel), List.mem_of_getElem? (i := 852) (by decide +kernel)⟩
theorem lw_p23 : lw_okq (⟨"PointingArmsModel", "isOne", "(I)Z"⟩, 31) := ⟨⟨by decide +kernel, by decide +kernel⟩, List.mem_of_getElem? (i := 712) (by decide +kernel), List.mem_of_getElem? (i := 863) (by decide +kernel), List.mem_of_getElem? (i := 864) (by decide +kernel)⟩
theorem lw_p24 : lw_okq (⟨"PointingArmsModel", "number", "()I"⟩, 31) := ⟨⟨by decide +kernel, by decide +kernel⟩, List.mem_of_getElem? (i := 712) (by decide +kernel), List.mem_of_getElem? (i := 883) (by decide +kernel), List.mem_of_getElem? (i := 884) (by decide +kernel)⟩
theorem lw_p25 : lw_okq (⟨"PointingArmsModel", "here", "()I"⟩, 31) := ⟨⟨by decide +kernel, by decide +kernel⟩, List.mem_of_getElem? (i := 712) (by decide +kernel), List.mem_of_getElem? (i := 887) (by decide +kernel), List.mem_of_getElem? (i := 888) (by decide +kernel)⟩
theorem lw_p26 : lw_okq (⟨"PointingArmsModel", "comma", "()V"⟩, 31) := ⟨⟨by decide +kernel, by decide +kernel⟩, List.mem_of_getElem? (i := 712) (by decide +kernel), List.mem_of_getElem? (i := 893) (by decide +kernel), List.mem_of_getElem? (i := 894) (by decide +kernel)⟩
theorem lw_p27 : lw_okq (⟨"PointingArmsModel", "has", "(I)Z"⟩, 31) := ⟨⟨by decide +kernel, by decide +kernel⟩, List.mem_of_getElem? (i := 712) (by decide +kernel), List.mem_of_getElem? (i := 897) (by decide +kernel), List.mem_of_getElem? (i := 898) (by decide +kernel)⟩
theorem lw_p28 : lw_okq (⟨"PointingArmsModel", "digit", "(I)I"⟩, 31) := ⟨⟨by decide +kernel, by decide +kernel⟩, List.mem_of_getElem? (i := 712) (by decide +kernel), List.mem_of_getElem? (i := 901) (by decide +kernel), List.mem_of_getElem? (i := 902) (by decide +kernel)⟩
theorem lw_p29 : lw_okq (⟨"PointingArmsModel", "arm", "(I)V"⟩, 31) := ⟨⟨by decide +kernel, by decide +kernel⟩, List.mem_of_getElem? (i := 712) (by decide +kernel), List.mem_of_getElem? (i := 909) (by decide +kernel), List.mem_of_getElem? (i := 910) (by decide +kernel)⟩
theorem lw_p30 : lw_okq (⟨"PointingArmsModel", "signed", "()I"⟩, 31) := ⟨⟨by decide +kernel, by decide +kernel⟩, List.mem_of_getElem? (i := 712) (by decide +kernel), List.mem_of_getElem? (i := 913) (by decide +kernel), List.mem_of_getElem? (i := 914) (by decide +kernel)⟩
theorem lw_p31 : lw_okq (⟨"PointingArmsModel", "meetsAt", "(IIIII)I"⟩, 31) := ⟨⟨by decide +kernel, by decide +kernel⟩, List.mem_of_getElem? (i := 712) (by decide +kernel), List.mem_of_getElem? (i := 930) (by decide +kernel), List.mem_of_getElem? (i := 931) (by decide +kernel)⟩
def lw_privs_2 : List (MethodName × Nat) := [(⟨"PointingArms$Layout", "choose", "(III)Z"⟩, 3), (⟨"PointingArms$Layout", "lay", "(LPointingArms$Rows;III)I"⟩, 3), (⟨"PointingArms$Layout", "eachAlone", "(LPointingArms$Fan;III)Z"⟩, 3), (⟨"PointingArms", "sheetOf", "(I)LPointingArms$Sheet;"⟩, 10), (⟨"PointingArmsModel", "comes", "(IIII)V"⟩, 31), (⟨"PointingArmsModel", "isThing", "(I)Z"⟩, 31), (⟨"PointingArmsModel", "middle", "(III)I"⟩, 31), (⟨"PointingArmsModel", "isOne", "(I)Z"⟩, 31), (⟨"PointingArmsModel", "number", "()I"⟩, 31), (⟨"PointingArmsModel", "here", "()I"⟩, 31), (⟨"PointingArmsModel", "comma", "()V"⟩, 31), (⟨"PointingArmsModel", "has", "(I)Z"⟩, 31), (⟨"PointingArmsModel", "digit", "(I)I"⟩, 31), (⟨"PointingArmsModel", "arm", "(I)V"⟩, 31), (⟨"PointingArmsModel", "signed", "()I"⟩, 31), (⟨"PointingArmsModel", "meetsAt", "(IIIII)I"⟩, 31)]
theorem lw_r2 : ∀ q ∈ lw_privs_2, lw_okq q := List.forall_mem_cons.mpr ⟨lw_p16, List.forall_mem_cons.mpr ⟨lw_p17, List.forall_mem_cons.mpr ⟨lw_p18, List.forall_mem_cons.mpr ⟨lw_p19, List.forall_mem_cons.mpr ⟨lw_p20, List.forall_mem_cons.mpr ⟨lw_p21, List.forall_mem_cons.mpr ⟨lw_p22, List.forall_mem_cons.mpr ⟨lw_p23, List.forall_mem_cons.mpr ⟨lw_p24, List.forall_mem_cons.mpr ⟨lw_p25, List.forall_mem_cons.mpr ⟨lw_p26, List.forall_mem_cons.mpr ⟨lw_p27, List.forall_mem_cons.mpr ⟨lw_p28, List.forall_mem_cons.mpr ⟨lw_p29, List.forall_mem_cons.mpr ⟨lw_p30, List.forall_mem_cons.mpr ⟨lw_p31, fun _ h => absurd h List.not_mem_nil⟩⟩⟩⟩⟩⟩⟩⟩⟩⟩⟩⟩⟩⟩⟩⟩
theorem lw_p32 : lw_okq (⟨"PointingArmsModel", "isMet", "(IIIIIII)Z"⟩, 31) := ⟨⟨by decide +kernel, by decide +kernel⟩, List.mem_of_getElem? (i := 712) (by decide +kernel), List.mem_of_getElem? (i := 934) (by decide +kernel), List.mem_of_getElem? (i := 935) (by decide +kernel)⟩
theorem lw_p33 : lw_okq (⟨"PointingArmsModel", "meansAt", "(IIIII)I"⟩, 31) := ⟨⟨by decide +kernel, by decide +kernel⟩, List.mem_of_getElem? (i := 712) (by decide +kernel), List.mem_of_getElem? (i := 942) (by decide +kernel), List.mem_of_getElem? (i := 943) (by decide +kernel)⟩
theorem lw_p34 : lw_okq (⟨"PointingArmsModel", "ahead", "(IIIIII)I"⟩, 31) := ⟨⟨by decide +kernel, by decide +kernel⟩, List.mem_of_getElem? (i := 712) (by decide +kernel), List.mem_of_getElem? (i := 946) (by decide +kernel), List.mem_of_getElem? (i := 947) (by decide +kernel)⟩
theorem lw_p35 : lw_okq (⟨"PointingArmsModel", "saysAt", "(II)I"⟩, 31) := ⟨⟨by decide +kernel, by decide +kernel⟩, List.mem_of_getElem? (i := 712) (by decide +kernel), List.mem_of_getElem? (i := 958) (by decide +kernel), List.mem_of_getElem? (i := 959) (by decide +kernel)⟩
theorem lw_p36 : lw_okq (⟨"PointingArmsModel", "aloneBy", "(III)I"⟩, 31) := ⟨⟨by decide +kernel, by decide +kernel⟩, List.mem_of_getElem? (i := 712) (by decide +kernel), List.mem_of_getElem? (i := 988) (by decide +kernel), List.mem_of_getElem? (i := 989) (by decide +kernel)⟩
theorem lw_p37 : lw_okq (⟨"PointingArmsModel", "isSet", "(I)Z"⟩, 31) := ⟨⟨by decide +kernel, by decide +kernel⟩, List.mem_of_getElem? (i := 712) (by decide +kernel), List.mem_of_getElem? (i := 1002) (by decide +kernel), List.mem_of_getElem? (i := 1003) (by decide +kernel)⟩
theorem lw_p38 : lw_okq (⟨"PointingArmsModel", "fewestOf", "(III)I"⟩, 31) := ⟨⟨by decide +kernel, by decide +kernel⟩, List.mem_of_getElem? (i := 712) (by decide +kernel), List.mem_of_getElem? (i := 1006) (by decide +kernel), List.mem_of_getElem? (i := 1007) (by decide +kernel)⟩
theorem lw_p39 : lw_okq (⟨"PointingArmsModel", "lays", "(II)Z"⟩, 31) := ⟨⟨by decide +kernel, by decide +kernel⟩, List.mem_of_getElem? (i := 712) (by decide +kernel), List.mem_of_getElem? (i := 1034) (by decide +kernel), List.mem_of_getElem? (i := 1035) (by decide +kernel)⟩
theorem lw_p40 : lw_okq (⟨"PointingArmsModel", "isClear", "(III)Z"⟩, 31) := ⟨⟨by decide +kernel, by decide +kernel⟩, List.mem_of_getElem? (i := 712) (by decide +kernel), List.mem_of_getElem? (i := 1038) (by decide +kernel), List.mem_of_getElem? (i := 1039) (by decide +kernel)⟩
theorem lw_p41 : lw_okq (⟨"PointingArmsModel", "metOn", "(IIIII)I"⟩, 31) := ⟨⟨by decide +kernel, by decide +kernel⟩, List.mem_of_getElem? (i := 712) (by decide +kernel), List.mem_of_getElem? (i := 1042) (by decide +kernel), List.mem_of_getElem? (i := 1043) (by decide +kernel)⟩
theorem lw_p42 : lw_okq (⟨"PointingArmsModel", "lay", "([II)I"⟩, 31) := ⟨⟨by decide +kernel, by decide +kernel⟩, List.mem_of_getElem? (i := 712) (by decide +kernel), List.mem_of_getElem? (i := 1054) (by decide +kernel), List.mem_of_getElem? (i := 1055) (by decide +kernel)⟩
theorem lw_p43 : lw_okq (⟨"PointingArmsModel", "gives", "(I[I)I"⟩, 31) := ⟨⟨by decide +kernel, by decide +kernel⟩, List.mem_of_getElem? (i := 712) (by decide +kernel), List.mem_of_getElem? (i := 1062) (by decide +kernel), List.mem_of_getElem? (i := 1063) (by decide +kernel)⟩
theorem lw_p44 : lw_okq (⟨"PointingArmsModel", "finds", "(IIII)I"⟩, 31) := ⟨⟨by decide +kernel, by decide +kernel⟩, List.mem_of_getElem? (i := 712) (by decide +kernel), List.mem_of_getElem? (i := 1077) (by decide +kernel), List.mem_of_getElem? (i := 1078) (by decide +kernel)⟩
def lw_privs_3 : List (MethodName × Nat) := [(⟨"PointingArmsModel", "isMet", "(IIIIIII)Z"⟩, 31), (⟨"PointingArmsModel", "meansAt", "(IIIII)I"⟩, 31), (⟨"PointingArmsModel", "ahead", "(IIIIII)I"⟩, 31), (⟨"PointingArmsModel", "saysAt", "(II)I"⟩, 31), (⟨"PointingArmsModel", "aloneBy", "(III)I"⟩, 31), (⟨"PointingArmsModel", "isSet", "(I)Z"⟩, 31), (⟨"PointingArmsModel", "fewestOf", "(III)I"⟩, 31), (⟨"PointingArmsModel", "lays", "(II)Z"⟩, 31), (⟨"PointingArmsModel", "isClear", "(III)Z"⟩, 31), (⟨"PointingArmsModel", "metOn", "(IIIII)I"⟩, 31), (⟨"PointingArmsModel", "lay", "([II)I"⟩, 31), (⟨"PointingArmsModel", "gives", "(I[I)I"⟩, 31), (⟨"PointingArmsModel", "finds", "(IIII)I"⟩, 31)]
theorem lw_r3 : ∀ q ∈ lw_privs_3, lw_okq q := List.forall_mem_cons.mpr ⟨lw_p32, List.forall_mem_cons.mpr ⟨lw_p33, List.forall_mem_cons.mpr ⟨lw_p34, List.forall_mem_cons.mpr ⟨lw_p35, List.forall_mem_cons.mpr ⟨lw_p36, List.forall_mem_cons.mpr ⟨lw_p37, List.forall_mem_cons.mpr ⟨lw_p38, List.forall_mem_cons.mpr ⟨lw_p39, List.forall_mem_cons.mpr ⟨lw_p40, List.forall_mem_cons.mpr ⟨lw_p41, List.forall_mem_cons.mpr ⟨lw_p42, List.forall_mem_cons.mpr ⟨lw_p43, List.forall_mem_cons.mpr ⟨lw_p44, fun _ h => absurd h List.not_mem_nil⟩⟩⟩⟩⟩⟩⟩⟩⟩⟩⟩⟩⟩
def lw_privs : List (MethodName × Nat) := lw_privs_1 ++ (lw_privs_2 ++ (lw_privs_3))
def lw_tbl : List Cond := k2_sels lw_privs ++ tables_1
theorem lw_privs_ok : ∀ q ∈ lw_privs, lw_okq q := by
  show ∀ q ∈ lw_privs_1 ++ (lw_privs_2 ++ (lw_privs_3)), lw_okq q
  exact List.forall_mem_append.mpr ⟨lw_r1, List.forall_mem_append.mpr ⟨lw_r2, lw_r3⟩⟩
end
section
/-! ===== BEGIN words of one list among another's, by their places ===== -/
theorem goodIn_r {big : List Cond} (ws : List Cond) (ps : List Nat) (hp : ws = ps.filterMap (fun i => big[i]?)) (h : ws.all goodWord = true) : GoodIn big ws := by
  intro w hw
  have h1 := List.all_eq_true.mp h w hw
  rw [hp] at hw
  obtain ⟨i, -, hi⟩ := List.mem_filterMap.mp hw
  have hm : w ∈ big := by first | exact List.mem_of_getElem? hi | exact List.getElem?_mem hi
  exact ⟨hm, good_of_word h1⟩
theorem goodIn_app {big a b : List Cond} (ha : GoodIn big a) (hb : GoodIn big b) : GoodIn big (a ++ b) := fun w h => (List.mem_append.mp h).elim (ha w) (hb w)
theorem goodIn_ca {big a b : List Cond} {c : Cond} (ha : GoodIn big (c :: a)) (hb : GoodIn big b) : GoodIn big (c :: (a ++ b)) := fun w h => (List.mem_cons.mp h).elim (fun e => ha w (List.mem_cons.mpr (Or.inl e))) (fun h => (List.mem_append.mp h).elim (fun h => ha w (List.mem_cons.mpr (Or.inr h))) (hb w))
theorem goodIn_sub {big ws : List Cond} (hm : ∀ w ∈ ws, w ∈ big) (h : ws.all goodWord = true) : GoodIn big ws := fun w hw => ⟨hm w hw, good_of_word (List.all_eq_true.mp h w hw)⟩
/-! ===== END ===== -/
def RX0 : String := "PointingArms$Cover"
def TX0 : u_T := fun k => match k with
  | 0 => ("PointingArms$Cover", "meanings", "[I", true)
  | 1 => ("PointingArms$Cover", "size", "I", false)
  | _ => ("PointingArms$Cover", "least", "[I", true)
def tyX0 : Nat → FieldType := fun k => match k with
  | 0 => .array .int
  | 1 => .int
  | _ => .array .int
abbrev wsX00 : List Cond := u_ws RX0 TX0 3
theorem nmX0 : ∀ a, a < 3 → ∀ b, b < 3 → a ≠ b → (TX0 a).2.1 ≠ (TX0 b).2.1 := by decide +kernel
theorem tyX0_ok : ∀ k, k < 3 → parseFieldDescriptor (TX0 k).2.2.1 = some (tyX0 k) := by decide +kernel
abbrev cX0_init : ByteArray := prog_2_method_1_code
def yX0_init : MethodName := ⟨RX0, "<init>", "()V"⟩
abbrev cX0_fewestArms : ByteArray := prog_2_method_2_code
def yX0_fewestArms : MethodName := ⟨RX0, "fewestArms", "(LPointingArms$Field;LPointingArms$Fan;III)I"⟩
abbrev cX0_collect : ByteArray := prog_2_method_3_code
def yX0_collect : MethodName := ⟨RX0, "collect", "(LPointingArms$Field;LPointingArms$Fan;III)Z"⟩
abbrev cX0_note : ByteArray := prog_2_method_4_code
def yX0_note : MethodName := ⟨RX0, "note", "(I)V"⟩
abbrev cX0_goOnFrom : ByteArray := prog_2_method_5_code
def yX0_goOnFrom : MethodName := ⟨RX0, "goOnFrom", "(I)V"⟩
def RX1 : String := "PointingArms$Fan"
def TX1 : u_T := fun k => match k with
  | 0 => ("PointingArms$Fan", "byX", "[I", true)
  | _ => ("PointingArms$Fan", "byY", "[I", true)
def tyX1 : Nat → FieldType := fun k => match k with
  | 0 => .array .int
  | _ => .array .int
abbrev wsX10 : List Cond := u_ws RX1 TX1 2
theorem nmX1 : ∀ a, a < 2 → ∀ b, b < 2 → a ≠ b → (TX1 a).2.1 ≠ (TX1 b).2.1 := by decide +kernel
theorem tyX1_ok : ∀ k, k < 2 → parseFieldDescriptor (TX1 k).2.2.1 = some (tyX1 k) := by decide +kernel
abbrev cX1_init : ByteArray := prog_3_method_1_code
def yX1_init : MethodName := ⟨RX1, "<init>", "()V"⟩
abbrev cX1_haveDivisor : ByteArray := prog_3_method_2_code
def yX1_haveDivisor : MethodName := ⟨RX1, "haveDivisor", "(II)Z"⟩
abbrev cX1_dx : ByteArray := prog_3_method_3_code
def yX1_dx : MethodName := ⟨RX1, "dx", "(I)I"⟩
abbrev cX1_dy : ByteArray := prog_3_method_4_code
def yX1_dy : MethodName := ⟨RX1, "dy", "(I)I"⟩
abbrev cX1_canMean : ByteArray := prog_3_method_5_code
def yX1_canMean : MethodName := ⟨RX1, "canMean", "(LPointingArms$Field;III)Z"⟩
abbrev cX1_armsFor : ByteArray := prog_3_method_6_code
def yX1_armsFor : MethodName := ⟨RX1, "armsFor", "(LPointingArms$Field;III)I"⟩
def RX2 : String := "PointingArms$Field"
def TX2 : u_T := fun k => match k with
  | 0 => ("PointingArms$Rows", "width", "I", true)
  | 1 => ("PointingArms$Rows", "most", "I", true)
  | 2 => ("PointingArms$Rows", "cells", "[I", true)
  | 3 => ("PointingArms$Rows", "size", "I", false)
  | 4 => ("PointingArms$Field", "firstOnly", "I", false)
  | _ => ("PointingArms$Field", "touched", "I", false)
def tyX2 : Nat → FieldType := fun k => match k with
  | 0 => .int
  | 1 => .int
  | 2 => .array .int
  | 3 => .int
  | 4 => .int
  | _ => .int
abbrev wsX20 : List Cond := u_ws RX2 TX2 6
theorem nmX2 : ∀ a, a < 6 → ∀ b, b < 6 → a ≠ b → (TX2 a).2.1 ≠ (TX2 b).2.1 := by decide +kernel
theorem tyX2_ok : ∀ k, k < 6 → parseFieldDescriptor (TX2 k).2.2.1 = some (tyX2 k) := by decide +kernel
abbrev cX2_init : ByteArray := prog_4_method_1_code
def yX2_init : MethodName := ⟨RX2, "<init>", "()V"⟩
abbrev cX2_changeLaw : ByteArray := prog_4_method_2_code
def yX2_changeLaw : MethodName := ⟨RX2, "changeLaw", "(II)I"⟩
abbrev cX2_takeLaws : ByteArray := prog_4_method_3_code
def yX2_takeLaws : MethodName := ⟨RX2, "takeLaws", "(LPointingArms$Field;)V"⟩
abbrev cX2_middle : ByteArray := prog_4_method_4_code
def yX2_middle : MethodName := ⟨RX2, "middle", "(III)I"⟩
abbrev cX2_isMet : ByteArray := prog_4_method_5_code
def yX2_isMet : MethodName := ⟨RX2, "isMet", "(IIIIII)Z"⟩
abbrev cX2_metBy : ByteArray := prog_4_method_6_code
def yX2_metBy : MethodName := ⟨RX2, "metBy", "(IIIII)I"⟩
abbrev cX2_narrowed : ByteArray := prog_4_method_7_code
def yX2_narrowed : MethodName := ⟨RX2, "narrowed", "(IIII)I"⟩
abbrev cX2_meansJust : ByteArray := prog_4_method_8_code
def yX2_meansJust : MethodName := ⟨RX2, "meansJust", "(IIIII)Z"⟩
abbrev cX2_isAhead : ByteArray := prog_4_method_9_code
def yX2_isAhead : MethodName := ⟨RX2, "isAhead", "(IIIII)Z"⟩
def RX3 : String := "PointingArms$Layout"
def TX3 : u_T := fun k => match k with
  | 0 => ("PointingArms$Layout", "laid", "LPointingArms$Field;", true)
  | 1 => ("PointingArms$Layout", "tried", "[I", true)
  | _ => ("PointingArms$Layout", "chosen", "[I", true)
def tyX3 : Nat → FieldType := fun k => match k with
  | 0 => .object "PointingArms$Field"
  | 1 => .array .int
  | _ => .array .int
abbrev wsX30 : List Cond := u_ws RX3 TX3 3
theorem nmX3 : ∀ a, a < 3 → ∀ b, b < 3 → a ≠ b → (TX3 a).2.1 ≠ (TX3 b).2.1 := by decide +kernel
theorem tyX3_ok : ∀ k, k < 3 → parseFieldDescriptor (TX3 k).2.2.1 = some (tyX3 k) := by decide +kernel
abbrev cX3_init : ByteArray := prog_5_method_1_code
def yX3_init : MethodName := ⟨RX3, "<init>", "()V"⟩
abbrev cX3_stallOf : ByteArray := prog_5_method_2_code
def yX3_stallOf : MethodName := ⟨RX3, "stallOf", "(I)I"⟩
abbrev cX3_leastWays : ByteArray := prog_5_method_3_code
def yX3_leastWays : MethodName := ⟨RX3, "leastWays", "(LPointingArms$Scene;LPointingArms$Fan;III)I"⟩
abbrev cX3_bring : ByteArray := prog_5_method_4_code
def yX3_bring : MethodName := ⟨RX3, "bring", "(LPointingArms$Field;I)V"⟩
abbrev cX3_choose : ByteArray := prog_5_method_5_code
def yX3_choose : MethodName := ⟨RX3, "choose", "(III)Z"⟩
abbrev cX3_lay : ByteArray := prog_5_method_6_code
def yX3_lay : MethodName := ⟨RX3, "lay", "(LPointingArms$Rows;III)I"⟩
abbrev cX3_eachAlone : ByteArray := prog_5_method_7_code
def yX3_eachAlone : MethodName := ⟨RX3, "eachAlone", "(LPointingArms$Fan;III)Z"⟩
def RX4 : String := "PointingArms$Rows"
def TX4 : u_T := fun k => match k with
  | 0 => ("PointingArms$Rows", "width", "I", true)
  | 1 => ("PointingArms$Rows", "most", "I", true)
  | 2 => ("PointingArms$Rows", "cells", "[I", true)
  | _ => ("PointingArms$Rows", "size", "I", false)
def tyX4 : Nat → FieldType := fun k => match k with
  | 0 => .int
  | 1 => .int
  | 2 => .array .int
  | _ => .int
abbrev wsX40 : List Cond := u_ws RX4 TX4 4
theorem nmX4 : ∀ a, a < 4 → ∀ b, b < 4 → a ≠ b → (TX4 a).2.1 ≠ (TX4 b).2.1 := by decide +kernel
theorem tyX4_ok : ∀ k, k < 4 → parseFieldDescriptor (TX4 k).2.2.1 = some (tyX4 k) := by decide +kernel
abbrev cX4_init : ByteArray := prog_6_method_1_code
def yX4_init : MethodName := ⟨RX4, "<init>", "(II)V"⟩
abbrev cX4_size : ByteArray := prog_6_method_2_code
def yX4_size : MethodName := ⟨RX4, "size", "()I"⟩
abbrev cX4_has : ByteArray := prog_6_method_3_code
def yX4_has : MethodName := ⟨RX4, "has", "(I)Z"⟩
abbrev cX4_open : ByteArray := prog_6_method_4_code
def yX4_open : MethodName := ⟨RX4, "open", "()I"⟩
abbrev cX4_get : ByteArray := prog_6_method_5_code
def yX4_get : MethodName := ⟨RX4, "get", "(II)I"⟩
abbrev cX4_put : ByteArray := prog_6_method_6_code
def yX4_put : MethodName := ⟨RX4, "put", "(III)I"⟩
abbrev cX4_empty : ByteArray := prog_6_method_7_code
def yX4_empty : MethodName := ⟨RX4, "empty", "()V"⟩
abbrev cX4_takeRows : ByteArray := prog_6_method_8_code
def yX4_takeRows : MethodName := ⟨RX4, "takeRows", "(LPointingArms$Rows;)V"⟩
def RX5 : String := "PointingArms$Scene"
def TX5 : u_T := fun k => match k with
  | 0 => ("PointingArms$Scene", "field", "LPointingArms$Field;", true)
  | 1 => ("PointingArms$Scene", "people", "LPointingArms$Rows;", true)
  | 2 => ("PointingArms$Scene", "arms", "LPointingArms$Rows;", true)
  | 3 => ("PointingArms$Scene", "stalls", "LPointingArms$Rows;", true)
  | _ => ("PointingArms$Scene", "told", "LPointingArms$Rows;", true)
def tyX5 : Nat → FieldType := fun k => match k with
  | 0 => .object "PointingArms$Field"
  | 1 => .object "PointingArms$Rows"
  | 2 => .object "PointingArms$Rows"
  | 3 => .object "PointingArms$Rows"
  | _ => .object "PointingArms$Rows"
abbrev wsX50 : List Cond := u_ws RX5 TX5 5
theorem nmX5 : ∀ a, a < 5 → ∀ b, b < 5 → a ≠ b → (TX5 a).2.1 ≠ (TX5 b).2.1 := by decide +kernel
theorem tyX5_ok : ∀ k, k < 5 → parseFieldDescriptor (TX5 k).2.2.1 = some (tyX5 k) := by decide +kernel
abbrev cX5_init : ByteArray := prog_7_method_1_code
def yX5_init : MethodName := ⟨RX5, "<init>", "()V"⟩
abbrev cX5_sentences : ByteArray := prog_7_method_2_code
def yX5_sentences : MethodName := ⟨RX5, "sentences", "()I"⟩
abbrev cX5_takeAll : ByteArray := prog_7_method_3_code
def yX5_takeAll : MethodName := ⟨RX5, "takeAll", "(LPointingArms$Scene;)V"⟩
def RX6 : String := "PointingArms$Sheet"
def TX6 : u_T := fun k => match k with
  | 0 => ("PointingArms$Sheet", "lane", "I", false)
  | 1 => ("PointingArms$Sheet", "size", "I", false)
  | _ => ("PointingArms$Sheet", "items", "[J", true)
def tyX6 : Nat → FieldType := fun k => match k with
  | 0 => .int
  | 1 => .int
  | _ => .array .long
abbrev wsX60 : List Cond := u_ws RX6 TX6 3
theorem nmX6 : ∀ a, a < 3 → ∀ b, b < 3 → a ≠ b → (TX6 a).2.1 ≠ (TX6 b).2.1 := by decide +kernel
theorem tyX6_ok : ∀ k, k < 3 → parseFieldDescriptor (TX6 k).2.2.1 = some (tyX6 k) := by decide +kernel
abbrev cX6_init : ByteArray := prog_8_method_1_code
def yX6_init : MethodName := ⟨RX6, "<init>", "()V"⟩
abbrev cX6_isMissing : ByteArray := prog_8_method_2_code
def yX6_isMissing : MethodName := ⟨RX6, "isMissing", "()Z"⟩
abbrev cX6_lane : ByteArray := prog_8_method_3_code
def yX6_lane : MethodName := ⟨RX6, "lane", "()I"⟩
abbrev cX6_size : ByteArray := prog_8_method_4_code
def yX6_size : MethodName := ⟨RX6, "size", "()I"⟩
abbrev cX6_renew : ByteArray := prog_8_method_5_code
def yX6_renew : MethodName := ⟨RX6, "renew", "(II)V"⟩
abbrev cX6_lose : ByteArray := prog_8_method_6_code
def yX6_lose : MethodName := ⟨RX6, "lose", "()V"⟩
abbrev cX6_refusal : ByteArray := prog_8_method_7_code
def yX6_refusal : MethodName := ⟨RX6, "refusal", "(III)I"⟩
abbrev cX6_get : ByteArray := prog_8_method_8_code
def yX6_get : MethodName := ⟨RX6, "get", "(I)J"⟩
abbrev cX6_put : ByteArray := prog_8_method_9_code
def yX6_put : MethodName := ⟨RX6, "put", "(IJ)V"⟩
abbrev cX6_takeItems : ByteArray := prog_8_method_10_code
def yX6_takeItems : MethodName := ⟨RX6, "takeItems", "(LPointingArms$Sheet;III)V"⟩
def RX7 : String := "PointingArms$Tape"
def TX7 : u_T := fun k => match k with
  | 0 => ("PointingArms$Tape", "bytes", "[I", true)
  | 1 => ("PointingArms$Tape", "size", "I", false)
  | 2 => ("PointingArms$Tape", "place", "I", false)
  | _ => ("PointingArms$Tape", "fault", "I", false)
def tyX7 : Nat → FieldType := fun k => match k with
  | 0 => .array .int
  | 1 => .int
  | 2 => .int
  | _ => .int
abbrev wsX70 : List Cond := u_ws RX7 TX7 4
theorem nmX7 : ∀ a, a < 4 → ∀ b, b < 4 → a ≠ b → (TX7 a).2.1 ≠ (TX7 b).2.1 := by decide +kernel
theorem tyX7_ok : ∀ k, k < 4 → parseFieldDescriptor (TX7 k).2.2.1 = some (tyX7 k) := by decide +kernel
abbrev cX7_init : ByteArray := prog_9_method_1_code
def yX7_init : MethodName := ⟨RX7, "<init>", "()V"⟩
abbrev cX7_canHold : ByteArray := prog_9_method_2_code
def yX7_canHold : MethodName := ⟨RX7, "canHold", "(JI)Z"⟩
abbrev cX7_byteOf : ByteArray := prog_9_method_3_code
def yX7_byteOf : MethodName := ⟨RX7, "byteOf", "(JI)I"⟩
abbrev cX7_size : ByteArray := prog_9_method_4_code
def yX7_size : MethodName := ⟨RX7, "size", "()I"⟩
abbrev cX7_append : ByteArray := prog_9_method_5_code
def yX7_append : MethodName := ⟨RX7, "append", "(JI)Z"⟩
abbrev cX7_begin : ByteArray := prog_9_method_6_code
def yX7_begin : MethodName := ⟨RX7, "begin", "()V"⟩
abbrev cX7_finish : ByteArray := prog_9_method_7_code
def yX7_finish : MethodName := ⟨RX7, "finish", "()I"⟩
abbrev cX7_failAt : ByteArray := prog_9_method_8_code
def yX7_failAt : MethodName := ⟨RX7, "failAt", "(I)V"⟩
abbrev cX7_placeOfNext : ByteArray := prog_9_method_9_code
def yX7_placeOfNext : MethodName := ⟨RX7, "placeOfNext", "()I"⟩
abbrev cX7_takes : ByteArray := prog_9_method_10_code
def yX7_takes : MethodName := ⟨RX7, "takes", "(C)Z"⟩
abbrev cX7_needs : ByteArray := prog_9_method_11_code
def yX7_needs : MethodName := ⟨RX7, "needs", "(C)V"⟩
abbrev cX7_readDigit : ByteArray := prog_9_method_12_code
def yX7_readDigit : MethodName := ⟨RX7, "readDigit", "(I)I"⟩
abbrev cX7_readSigned : ByteArray := prog_9_method_13_code
def yX7_readSigned : MethodName := ⟨RX7, "readSigned", "()I"⟩
abbrev cX7_readNumber : ByteArray := prog_9_method_14_code
def yX7_readNumber : MethodName := ⟨RX7, "readNumber", "(I)I"⟩
abbrev cX7_isDigit : ByteArray := prog_9_method_15_code
def yX7_isDigit : MethodName := ⟨RX7, "isDigit", "(I)Z"⟩
abbrev cX7_next : ByteArray := prog_9_method_16_code
def yX7_next : MethodName := ⟨RX7, "next", "()I"⟩
def RX8 : String := "PointingArms"
def TX8 : u_T := fun k => match k with
  | 0 => ("PointingArms", "fan", "LPointingArms$Fan;", true)
  | 1 => ("PointingArms", "now", "LPointingArms$Scene;", true)
  | 2 => ("PointingArms", "kept", "LPointingArms$Scene;", true)
  | 3 => ("PointingArms", "isKept", "Z", false)
  | 4 => ("PointingArms", "tape", "LPointingArms$Tape;", true)
  | 5 => ("PointingArms", "typedThings", "LPointingArms$Field;", true)
  | 6 => ("PointingArms", "typedArms", "LPointingArms$Rows;", true)
  | 7 => ("PointingArms", "cover", "LPointingArms$Cover;", true)
  | 8 => ("PointingArms", "layout", "LPointingArms$Layout;", true)
  | _ => ("PointingArms", "sheets", "[LPointingArms$Sheet;", true)
def tyX8 : Nat → FieldType := fun k => match k with
  | 0 => .object "PointingArms$Fan"
  | 1 => .object "PointingArms$Scene"
  | 2 => .object "PointingArms$Scene"
  | 3 => .boolean
  | 4 => .object "PointingArms$Tape"
  | 5 => .object "PointingArms$Field"
  | 6 => .object "PointingArms$Rows"
  | 7 => .object "PointingArms$Cover"
  | 8 => .object "PointingArms$Layout"
  | _ => .array (.object "PointingArms$Sheet")
abbrev wsX80 : List Cond := u_ws RX8 TX8 10
theorem nmX8 : ∀ a, a < 10 → ∀ b, b < 10 → a ≠ b → (TX8 a).2.1 ≠ (TX8 b).2.1 := by decide +kernel
theorem tyX8_ok : ∀ k, k < 10 → parseFieldDescriptor (TX8 k).2.2.1 = some (tyX8 k) := by decide +kernel
abbrev cX8_init : ByteArray := prog_1_method_1_code
def yX8_init : MethodName := ⟨RX8, "<init>", "()V"⟩
abbrev cX8_thing : ByteArray := prog_1_method_2_code
def yX8_thing : MethodName := ⟨RX8, "thing", "(III)I"⟩
abbrev cX8_make : ByteArray := prog_1_method_3_code
def yX8_make : MethodName := ⟨RX8, "make", "(III)I"⟩
abbrev cX8_at : ByteArray := prog_1_method_4_code
def yX8_at : MethodName := ⟨RX8, "at", "(III)I"⟩
abbrev cX8_person : ByteArray := prog_1_method_5_code
def yX8_person : MethodName := ⟨RX8, "person", "(II)I"⟩
abbrev cX8_walk : ByteArray := prog_1_method_6_code
def yX8_walk : MethodName := ⟨RX8, "walk", "(III)I"⟩
abbrev cX8_rule : ByteArray := prog_1_method_7_code
def yX8_rule : MethodName := ⟨RX8, "rule", "(II)I"⟩
abbrev cX8_type : ByteArray := prog_1_method_8_code
def yX8_type : MethodName := ⟨RX8, "type", "(JI)I"⟩
abbrev cX8_things : ByteArray := prog_1_method_9_code
def yX8_things : MethodName := ⟨RX8, "things", "()I"⟩
abbrev cX8_talk : ByteArray := prog_1_method_10_code
def yX8_talk : MethodName := ⟨RX8, "talk", "()I"⟩
abbrev cX8_count : ByteArray := prog_1_method_11_code
def yX8_count : MethodName := ⟨RX8, "count", "(I)I"⟩
abbrev cX8_meets : ByteArray := prog_1_method_12_code
def yX8_meets : MethodName := ⟨RX8, "meets", "(IIII)I"⟩
abbrev cX8_means : ByteArray := prog_1_method_13_code
def yX8_means : MethodName := ⟨RX8, "means", "(IIII)I"⟩
abbrev cX8_both : ByteArray := prog_1_method_14_code
def yX8_both : MethodName := ⟨RX8, "both", "(IIIIII)I"⟩
abbrev cX8_says : ByteArray := prog_1_method_15_code
def yX8_says : MethodName := ⟨RX8, "says", "(II)I"⟩
abbrev cX8_dark : ByteArray := prog_1_method_16_code
def yX8_dark : MethodName := ⟨RX8, "dark", "(I)I"⟩
abbrev cX8_when : ByteArray := prog_1_method_17_code
def yX8_when : MethodName := ⟨RX8, "when", "(IIII)I"⟩
abbrev cX8_misread : ByteArray := prog_1_method_18_code
def yX8_misread : MethodName := ⟨RX8, "misread", "(IIII)I"⟩
abbrev cX8_bargain : ByteArray := prog_1_method_19_code
def yX8_bargain : MethodName := ⟨RX8, "bargain", "(IIIIII)I"⟩
abbrev cX8_share : ByteArray := prog_1_method_20_code
def yX8_share : MethodName := ⟨RX8, "share", "(IIII)I"⟩
abbrev cX8_ground : ByteArray := prog_1_method_21_code
def yX8_ground : MethodName := ⟨RX8, "ground", "(II)I"⟩
abbrev cX8_fewest : ByteArray := prog_1_method_22_code
def yX8_fewest : MethodName := ⟨RX8, "fewest", "(III)I"⟩
abbrev cX8_aside : ByteArray := prog_1_method_23_code
def yX8_aside : MethodName := ⟨RX8, "aside", "(IIII)I"⟩
abbrev cX8_meant : ByteArray := prog_1_method_24_code
def yX8_meant : MethodName := ⟨RX8, "meant", "(III)I"⟩
abbrev cX8_stood : ByteArray := prog_1_method_25_code
def yX8_stood : MethodName := ⟨RX8, "stood", "(I)I"⟩
abbrev cX8_stall : ByteArray := prog_1_method_26_code
def yX8_stall : MethodName := ⟨RX8, "stall", "(II)I"⟩
abbrev cX8_market : ByteArray := prog_1_method_27_code
def yX8_market : MethodName := ⟨RX8, "market", "(IIII)I"⟩
abbrev cX8_clear : ByteArray := prog_1_method_28_code
def yX8_clear : MethodName := ⟨RX8, "clear", "()I"⟩
abbrev cX8_image : ByteArray := prog_1_method_29_code
def yX8_image : MethodName := ⟨RX8, "image", "()I"⟩
abbrev cX8_restore : ByteArray := prog_1_method_30_code
def yX8_restore : MethodName := ⟨RX8, "restore", "()I"⟩
abbrev cX8_clears : ByteArray := prog_1_method_31_code
def yX8_clears : MethodName := ⟨RX8, "clears", "(IIIII)I"⟩
abbrev cX8_sheet : ByteArray := prog_1_method_32_code
def yX8_sheet : MethodName := ⟨RX8, "sheet", "(III)I"⟩
abbrev cX8_drop : ByteArray := prog_1_method_33_code
def yX8_drop : MethodName := ⟨RX8, "drop", "(I)I"⟩
abbrev cX8_item : ByteArray := prog_1_method_34_code
def yX8_item : MethodName := ⟨RX8, "item", "(IIIJ)I"⟩
abbrev cX8_copy : ByteArray := prog_1_method_35_code
def yX8_copy : MethodName := ⟨RX8, "copy", "(IIIII)I"⟩
abbrev cX8_isPoint : ByteArray := prog_1_method_36_code
def yX8_isPoint : MethodName := ⟨RX8, "isPoint", "(II)Z"⟩
abbrev cX8_isArm : ByteArray := prog_1_method_37_code
def yX8_isArm : MethodName := ⟨RX8, "isArm", "(JJ)Z"⟩
abbrev cX8_isTick : ByteArray := prog_1_method_38_code
def yX8_isTick : MethodName := ⟨RX8, "isTick", "(I)Z"⟩
abbrev cX8_isLane : ByteArray := prog_1_method_39_code
def yX8_isLane : MethodName := ⟨RX8, "isLane", "(I)Z"⟩
abbrev cX8_isOne : ByteArray := prog_1_method_40_code
def yX8_isOne : MethodName := ⟨RX8, "isOne", "(I)Z"⟩
abbrev cX8_isSet : ByteArray := prog_1_method_41_code
def yX8_isSet : MethodName := ⟨RX8, "isSet", "(I)Z"⟩
abbrev cX8_areTwo : ByteArray := prog_1_method_42_code
def yX8_areTwo : MethodName := ⟨RX8, "areTwo", "(II)Z"⟩
abbrev cX8_sheetOf : ByteArray := prog_1_method_43_code
def yX8_sheetOf : MethodName := ⟨RX8, "sheetOf", "(I)LPointingArms$Sheet;"⟩
abbrev cX8_fits : ByteArray := prog_1_method_44_code
def yX8_fits : MethodName := ⟨RX8, "fits", "(II)Z"⟩
abbrev cX8_addThing : ByteArray := prog_1_method_45_code
def yX8_addThing : MethodName := ⟨RX8, "addThing", "(LPointingArms$Field;III)I"⟩
abbrev cX8_addPoint : ByteArray := prog_1_method_46_code
def yX8_addPoint : MethodName := ⟨RX8, "addPoint", "(LPointingArms$Rows;II)I"⟩
abbrev cX8_metBy : ByteArray := prog_1_method_47_code
def yX8_metBy : MethodName := ⟨RX8, "metBy", "(IIII)I"⟩
abbrev cX8_meaningOf : ByteArray := prog_1_method_48_code
def yX8_meaningOf : MethodName := ⟨RX8, "meaningOf", "(IIII)I"⟩
abbrev cX8_meaningOfSentence : ByteArray := prog_1_method_49_code
def yX8_meaningOfSentence : MethodName := ⟨RX8, "meaningOfSentence", "(II)I"⟩
abbrev cX8_asideAt : ByteArray := prog_1_method_50_code
def yX8_asideAt : MethodName := ⟨RX8, "asideAt", "(IIIII)I"⟩
abbrev cX8_couldStand : ByteArray := prog_1_method_51_code
def yX8_couldStand : MethodName := ⟨RX8, "couldStand", "(II)Z"⟩
abbrev cX8_readThing : ByteArray := prog_1_method_52_code
def yX8_readThing : MethodName := ⟨RX8, "readThing", "()V"⟩
abbrev cX8_readSentence : ByteArray := prog_1_method_53_code
def yX8_readSentence : MethodName := ⟨RX8, "readSentence", "(I)V"⟩
abbrev cX8_readArm : ByteArray := prog_1_method_54_code
def yX8_readArm : MethodName := ⟨RX8, "readArm", "(I)V"⟩
def RX9 : String := "PointingArmsModel"
def TX9 : u_T := fun k => match k with
  | 0 => ("PointingArmsModel", "fans", "I", false)
  | 1 => ("PointingArmsModel", "fan", "[I", true)
  | 2 => ("PointingArmsModel", "things", "I", false)
  | 3 => ("PointingArmsModel", "parts", "[I", true)
  | 4 => ("PointingArmsModel", "people", "I", false)
  | 5 => ("PointingArmsModel", "xs", "[I", true)
  | 6 => ("PointingArmsModel", "ys", "[I", true)
  | 7 => ("PointingArmsModel", "laws", "[I", true)
  | 8 => ("PointingArmsModel", "sentences", "I", false)
  | 9 => ("PointingArmsModel", "arms", "[I", true)
  | 10 => ("PointingArmsModel", "talk", "[I", true)
  | 11 => ("PointingArmsModel", "stalls", "I", false)
  | 12 => ("PointingArmsModel", "stallX", "[I", true)
  | 13 => ("PointingArmsModel", "stallY", "[I", true)
  | 14 => ("PointingArmsModel", "told", "I", false)
  | 15 => ("PointingArmsModel", "tolds", "[I", true)
  | 16 => ("PointingArmsModel", "tape", "[I", true)
  | 17 => ("PointingArmsModel", "taped", "I", false)
  | 18 => ("PointingArmsModel", "at", "I", false)
  | 19 => ("PointingArmsModel", "wrong", "Z", false)
  | 20 => ("PointingArmsModel", "read", "[I", true)
  | 21 => ("PointingArmsModel", "readArms", "[I", true)
  | 22 => ("PointingArmsModel", "some", "[I", true)
  | 23 => ("PointingArmsModel", "few", "[I", true)
  | 24 => ("PointingArmsModel", "laid", "[I", true)
  | 25 => ("PointingArmsModel", "image", "[I", true)
  | 26 => ("PointingArmsModel", "isImage", "Z", false)
  | 27 => ("PointingArmsModel", "lanes", "[I", true)
  | 28 => ("PointingArmsModel", "sizes", "[I", true)
  | 29 => ("PointingArmsModel", "items", "[J", true)
  | _ => ("PointingArmsModel", "moved", "[J", true)
def tyX9 : Nat → FieldType := fun k => match k with
  | 0 => .int
  | 1 => .array .int
  | 2 => .int
  | 3 => .array .int
  | 4 => .int
  | 5 => .array .int
  | 6 => .array .int
  | 7 => .array .int
  | 8 => .int
  | 9 => .array .int
  | 10 => .array .int
  | 11 => .int
  | 12 => .array .int
  | 13 => .array .int
  | 14 => .int
  | 15 => .array .int
  | 16 => .array .int
  | 17 => .int
  | 18 => .int
  | 19 => .boolean
  | 20 => .array .int
  | 21 => .array .int
  | 22 => .array .int
  | 23 => .array .int
  | 24 => .array .int
  | 25 => .array .int
  | 26 => .boolean
  | 27 => .array .int
  | 28 => .array .int
  | 29 => .array .long
  | _ => .array .long
abbrev wsX90 : List Cond := u_ws RX9 TX9 31
theorem nmX9 : ∀ a, a < 31 → ∀ b, b < 31 → a ≠ b → (TX9 a).2.1 ≠ (TX9 b).2.1 := by decide +kernel
theorem tyX9_ok : ∀ k, k < 31 → parseFieldDescriptor (TX9 k).2.2.1 = some (tyX9 k) := by decide +kernel
abbrev cX9_in : ByteArray := prog_11_method_2_code
def yX9_in : MethodName := ⟨RX9, "in", "(JJJ)Z"⟩
abbrev cX9_init : ByteArray := prog_11_method_3_code
def yX9_init : MethodName := ⟨RX9, "<init>", "()V"⟩
abbrev cX9_isFan : ByteArray := prog_11_method_4_code
def yX9_isFan : MethodName := ⟨RX9, "isFan", "(II)Z"⟩
abbrev cX9_isPoint : ByteArray := prog_11_method_5_code
def yX9_isPoint : MethodName := ⟨RX9, "isPoint", "(II)Z"⟩
abbrev cX9_isThing : ByteArray := prog_11_method_6_code
def yX9_isThing : MethodName := ⟨RX9, "isThing", "(I)Z"⟩
abbrev cX9_isOne : ByteArray := prog_11_method_7_code
def yX9_isOne : MethodName := ⟨RX9, "isOne", "(I)Z"⟩
abbrev cX9_isArm : ByteArray := prog_11_method_8_code
def yX9_isArm : MethodName := ⟨RX9, "isArm", "(JJ)Z"⟩
abbrev cX9_isTick : ByteArray := prog_11_method_9_code
def yX9_isTick : MethodName := ⟨RX9, "isTick", "(I)Z"⟩
abbrev cX9_comes : ByteArray := prog_11_method_10_code
def yX9_comes : MethodName := ⟨RX9, "comes", "(IIII)V"⟩
abbrev cX9_thing : ByteArray := prog_11_method_11_code
def yX9_thing : MethodName := ⟨RX9, "thing", "(III)I"⟩
abbrev cX9_make : ByteArray := prog_11_method_12_code
def yX9_make : MethodName := ⟨RX9, "make", "(III)I"⟩
abbrev cX9_middle : ByteArray := prog_11_method_13_code
def yX9_middle : MethodName := ⟨RX9, "middle", "(III)I"⟩
abbrev cX9_at : ByteArray := prog_11_method_14_code
def yX9_at : MethodName := ⟨RX9, "at", "(III)I"⟩
abbrev cX9_person : ByteArray := prog_11_method_15_code
def yX9_person : MethodName := ⟨RX9, "person", "(II)I"⟩
abbrev cX9_walk : ByteArray := prog_11_method_16_code
def yX9_walk : MethodName := ⟨RX9, "walk", "(III)I"⟩
abbrev cX9_rule : ByteArray := prog_11_method_17_code
def yX9_rule : MethodName := ⟨RX9, "rule", "(II)I"⟩
abbrev cX9_type : ByteArray := prog_11_method_18_code
def yX9_type : MethodName := ⟨RX9, "type", "(JI)I"⟩
abbrev cX9_here : ByteArray := prog_11_method_19_code
def yX9_here : MethodName := ⟨RX9, "here", "()I"⟩
abbrev cX9_has : ByteArray := prog_11_method_20_code
def yX9_has : MethodName := ⟨RX9, "has", "(I)Z"⟩
abbrev cX9_number : ByteArray := prog_11_method_21_code
def yX9_number : MethodName := ⟨RX9, "number", "()I"⟩
abbrev cX9_digit : ByteArray := prog_11_method_22_code
def yX9_digit : MethodName := ⟨RX9, "digit", "(I)I"⟩
abbrev cX9_comma : ByteArray := prog_11_method_23_code
def yX9_comma : MethodName := ⟨RX9, "comma", "()V"⟩
abbrev cX9_signed : ByteArray := prog_11_method_24_code
def yX9_signed : MethodName := ⟨RX9, "signed", "()I"⟩
abbrev cX9_things : ByteArray := prog_11_method_25_code
def yX9_things : MethodName := ⟨RX9, "things", "()I"⟩
abbrev cX9_arm : ByteArray := prog_11_method_26_code
def yX9_arm : MethodName := ⟨RX9, "arm", "(I)V"⟩
abbrev cX9_talk : ByteArray := prog_11_method_27_code
def yX9_talk : MethodName := ⟨RX9, "talk", "()I"⟩
abbrev cX9_count : ByteArray := prog_11_method_28_code
def yX9_count : MethodName := ⟨RX9, "count", "(I)I"⟩
abbrev cX9_isMet : ByteArray := prog_11_method_29_code
def yX9_isMet : MethodName := ⟨RX9, "isMet", "(IIIIIII)Z"⟩
abbrev cX9_meetsAt : ByteArray := prog_11_method_30_code
def yX9_meetsAt : MethodName := ⟨RX9, "meetsAt", "(IIIII)I"⟩
abbrev cX9_ahead : ByteArray := prog_11_method_31_code
def yX9_ahead : MethodName := ⟨RX9, "ahead", "(IIIIII)I"⟩
abbrev cX9_meansAt : ByteArray := prog_11_method_32_code
def yX9_meansAt : MethodName := ⟨RX9, "meansAt", "(IIIII)I"⟩
abbrev cX9_meets : ByteArray := prog_11_method_33_code
def yX9_meets : MethodName := ⟨RX9, "meets", "(IIII)I"⟩
abbrev cX9_means : ByteArray := prog_11_method_34_code
def yX9_means : MethodName := ⟨RX9, "means", "(IIII)I"⟩
abbrev cX9_both : ByteArray := prog_11_method_35_code
def yX9_both : MethodName := ⟨RX9, "both", "(IIIIII)I"⟩
abbrev cX9_saysAt : ByteArray := prog_11_method_36_code
def yX9_saysAt : MethodName := ⟨RX9, "saysAt", "(II)I"⟩
abbrev cX9_says : ByteArray := prog_11_method_37_code
def yX9_says : MethodName := ⟨RX9, "says", "(II)I"⟩
abbrev cX9_isSingle : ByteArray := prog_11_method_38_code
def yX9_isSingle : MethodName := ⟨RX9, "isSingle", "(I)Z"⟩
abbrev cX9_dark : ByteArray := prog_11_method_39_code
def yX9_dark : MethodName := ⟨RX9, "dark", "(I)I"⟩
abbrev cX9_when : ByteArray := prog_11_method_40_code
def yX9_when : MethodName := ⟨RX9, "when", "(IIII)I"⟩
abbrev cX9_misread : ByteArray := prog_11_method_41_code
def yX9_misread : MethodName := ⟨RX9, "misread", "(IIII)I"⟩
abbrev cX9_which : ByteArray := prog_11_method_42_code
def yX9_which : MethodName := ⟨RX9, "which", "(I)I"⟩
abbrev cX9_bargain : ByteArray := prog_11_method_43_code
def yX9_bargain : MethodName := ⟨RX9, "bargain", "(IIIIII)I"⟩
abbrev cX9_aloneBy : ByteArray := prog_11_method_44_code
def yX9_aloneBy : MethodName := ⟨RX9, "aloneBy", "(III)I"⟩
abbrev cX9_share : ByteArray := prog_11_method_45_code
def yX9_share : MethodName := ⟨RX9, "share", "(IIII)I"⟩
abbrev cX9_ground : ByteArray := prog_11_method_46_code
def yX9_ground : MethodName := ⟨RX9, "ground", "(II)I"⟩
abbrev cX9_fewestOf : ByteArray := prog_11_method_47_code
def yX9_fewestOf : MethodName := ⟨RX9, "fewestOf", "(III)I"⟩
abbrev cX9_isSet : ByteArray := prog_11_method_48_code
def yX9_isSet : MethodName := ⟨RX9, "isSet", "(I)Z"⟩
abbrev cX9_fewest : ByteArray := prog_11_method_49_code
def yX9_fewest : MethodName := ⟨RX9, "fewest", "(III)I"⟩
abbrev cX9_size : ByteArray := prog_11_method_50_code
def yX9_size : MethodName := ⟨RX9, "size", "(I)I"⟩
abbrev cX9_aside : ByteArray := prog_11_method_51_code
def yX9_aside : MethodName := ⟨RX9, "aside", "(IIII)I"⟩
abbrev cX9_meant : ByteArray := prog_11_method_52_code
def yX9_meant : MethodName := ⟨RX9, "meant", "(III)I"⟩
abbrev cX9_stood : ByteArray := prog_11_method_53_code
def yX9_stood : MethodName := ⟨RX9, "stood", "(I)I"⟩
abbrev cX9_stall : ByteArray := prog_11_method_54_code
def yX9_stall : MethodName := ⟨RX9, "stall", "(II)I"⟩
abbrev cX9_metOn : ByteArray := prog_11_method_55_code
def yX9_metOn : MethodName := ⟨RX9, "metOn", "(IIIII)I"⟩
abbrev cX9_isClear : ByteArray := prog_11_method_56_code
def yX9_isClear : MethodName := ⟨RX9, "isClear", "(III)Z"⟩
abbrev cX9_lays : ByteArray := prog_11_method_57_code
def yX9_lays : MethodName := ⟨RX9, "lays", "(II)Z"⟩
abbrev cX9_market : ByteArray := prog_11_method_58_code
def yX9_market : MethodName := ⟨RX9, "market", "(IIII)I"⟩
abbrev cX9_clear : ByteArray := prog_11_method_59_code
def yX9_clear : MethodName := ⟨RX9, "clear", "()I"⟩
abbrev cX9_lay : ByteArray := prog_11_method_60_code
def yX9_lay : MethodName := ⟨RX9, "lay", "([II)I"⟩
abbrev cX9_gives : ByteArray := prog_11_method_61_code
def yX9_gives : MethodName := ⟨RX9, "gives", "(I[I)I"⟩
abbrev cX9_image : ByteArray := prog_11_method_62_code
def yX9_image : MethodName := ⟨RX9, "image", "()I"⟩
abbrev cX9_restore : ByteArray := prog_11_method_63_code
def yX9_restore : MethodName := ⟨RX9, "restore", "()I"⟩
abbrev cX9_isSheet : ByteArray := prog_11_method_64_code
def yX9_isSheet : MethodName := ⟨RX9, "isSheet", "(I)Z"⟩
abbrev cX9_isLane : ByteArray := prog_11_method_65_code
def yX9_isLane : MethodName := ⟨RX9, "isLane", "(I)Z"⟩
abbrev cX9_finds : ByteArray := prog_11_method_66_code
def yX9_finds : MethodName := ⟨RX9, "finds", "(IIII)I"⟩
abbrev cX9_clears : ByteArray := prog_11_method_67_code
def yX9_clears : MethodName := ⟨RX9, "clears", "(IIIII)I"⟩
abbrev cX9_sheet : ByteArray := prog_11_method_68_code
def yX9_sheet : MethodName := ⟨RX9, "sheet", "(III)I"⟩
abbrev cX9_drop : ByteArray := prog_11_method_69_code
def yX9_drop : MethodName := ⟨RX9, "drop", "(I)I"⟩
abbrev cX9_item : ByteArray := prog_11_method_70_code
def yX9_item : MethodName := ⟨RX9, "item", "(IIIJ)I"⟩
abbrev cX9_copy : ByteArray := prog_11_method_71_code
def yX9_copy : MethodName := ⟨RX9, "copy", "(IIIII)I"⟩
def RJ6 : String := "java/lang/Integer"
def TJ6 : u_T := fun k => match k with
  | _ => ("", "", "", false)
def tyJ6 : Nat → FieldType := fun k => match k with
  | _ => .int
abbrev wsJ60 : List Cond := u_ws RJ6 TJ6 0
theorem nmJ6 : ∀ a, a < 0 → ∀ b, b < 0 → a ≠ b → (TJ6 a).2.1 ≠ (TJ6 b).2.1 := by decide +kernel
theorem tyJ6_ok : ∀ k, k < 0 → parseFieldDescriptor (TJ6 k).2.2.1 = some (tyJ6 k) := by decide +kernel
abbrev cJ6_numberOfTrailingZeros_0f7a4 : ByteArray := prog_12_method_48_code
def yJ6_numberOfTrailingZeros_0f7a4 : MethodName := ⟨RJ6, "numberOfTrailingZeros", "(I)I"⟩
abbrev cJ6_bitCount_0f7a4 : ByteArray := prog_12_method_49_code
def yJ6_bitCount_0f7a4 : MethodName := ⟨RJ6, "bitCount", "(I)I"⟩
def RJ9 : String := "java/lang/Math"
def TJ9 : u_T := fun k => match k with
  | _ => ("", "", "", false)
def tyJ9 : Nat → FieldType := fun k => match k with
  | _ => .int
abbrev wsJ90 : List Cond := u_ws RJ9 TJ9 0
theorem nmJ9 : ∀ a, a < 0 → ∀ b, b < 0 → a ≠ b → (TJ9 a).2.1 ≠ (TJ9 b).2.1 := by decide +kernel
theorem tyJ9_ok : ∀ k, k < 0 → parseFieldDescriptor (TJ9 k).2.2.1 = some (tyJ9 k) := by decide +kernel
abbrev cJ9_abs_0f7a4 : ByteArray := prog_13_method_59_code
def yJ9_abs_0f7a4 : MethodName := ⟨RJ9, "abs", "(I)I"⟩
abbrev cJ9_min_7cf53 : ByteArray := prog_13_method_69_code
def yJ9_min_7cf53 : MethodName := ⟨RJ9, "min", "(II)I"⟩
def RJ10 : String := "java/lang/System"
def TJ10 : u_T := fun k => match k with
  | _ => ("", "", "", false)
def tyJ10 : Nat → FieldType := fun k => match k with
  | _ => .int
abbrev wsJ100 : List Cond := u_ws RJ10 TJ10 0
theorem nmJ10 : ∀ a, a < 0 → ∀ b, b < 0 → a ≠ b → (TJ10 a).2.1 ≠ (TJ10 b).2.1 := by decide +kernel
theorem tyJ10_ok : ∀ k, k < 0 → parseFieldDescriptor (TJ10 k).2.2.1 = some (tyJ10 k) := by decide +kernel
def RL : String := "PointingArmsLaw"
abbrev cL_law : ByteArray := code
def yL_law : MethodName := ⟨RL, "law", "([I)Z"⟩
abbrev vwCl : List vw_C := [(RX0, TX0, 3), (RX1, TX1, 2), (RX2, TX2, 6), (RX3, TX3, 3), (RX4, TX4, 4), (RX5, TX5, 5), (RX6, TX6, 3), (RX7, TX7, 4), (RX8, TX8, 10), (RX9, TX9, 31)]
end
section
/-! The Go layer: a world whose references are place numbers, states of a frame over it, and 'in any machine that holds this state the run comes to an exit state'. -/
abbrev gE : Type := (Nat × vp_A) ⊕ (Nat × List Value)
abbrev gW : Type := List (Nat × gE)
abbrev gM : Type := MethodName × ByteArray × Nat × Option FieldType
abbrev gS : Type := Nat × List (Nat × Value) × List Value × gW
def gv (ad : Nat → Nat) : Value → Value
  | .ref k => .ref (ad k)
  | v => v
def gA (ad : Nat → Nat) : vp_A → vp_A
  | (n, .inr (.inr (.inr (.inr f)))) => (n, .inr (.inr (.inr (.inr (fun i => (f i).map ad)))))
  | a => a
def gC (ad : Nat → Nat) (cA : Nat → ClassId) : gE → va_E
  | .inl (t, a) => .inl (cA t, gA ad a)
  | .inr (ci, vs) => .inr (ci, vs.map (gv ad))
def gq (ad : Nat → Nat) (cA : Nat → ClassId) (q : Nat × gE) : Nat × va_E := (ad q.1, gC ad cA q.2)
def gw (ad : Nat → Nat) (cA : Nat → ClassId) (w : gW) : va_W := w.map (gq ad cA)
def gl (ad : Nat → Nat) (q : Nat × Value) : Nat × Value := (q.1, gv ad q.2)
def gT (cA : Nat → ClassId) : List (ClassId × FieldType) := [(cA 0, .int), (cA 1, .long), (cA 2, .object RX6)]
def gTB : List Cond := lw_tbl.filter goodWord
def gNest : List (String × Nat × MethodName × String) := []
def gN (s : State) : Prop := ∀ q ∈ gNest, va_Nw (.methodLinkNest q.1 q.2.1 q.2.2.1 q.2.2.2) s
def gws (M : gM) : List Cond := .code M.1 M.2.1 M.2.2.1 M.2.2.2 :: gTB
def gX (M : gM) (p : Program) (s : State) (m : MethodId) (args : Array Value) (meth : Method) (c : Code) : Prop :=
  p.tables.exec = Jvm.exec ∧ c.code = M.2.1 ∧ meth.sig.returnType = M.2.2.2 ∧ c.maxLocals = M.2.2.1 ∧ s.vm.findClass M.1.cls = some m.cls ∧ (∀ w ∈ gTB, w.before args s = true) ∧ meth.locks = false ∧ gN s
def gIn (M : gM) (D : va_G) (ad : Nat → Nat) (cA : Nat → ClassId) (A : Nat → Prop) (H0 H : Heap) (locs : List Loc) (s : State) (ls : Array Slot) (lv : List (Nat × Value)) (w : gW) : Prop :=
  va_K D vwCl (gT cA) s ∧ va_P D vwCl (gw ad cA w) H ∧ va_D A (gw ad cA w) ∧ va_S A H0 H locs ∧ lv_has ls M.2.2.1 (lv.map (gl ad))
def Go (M : gM) (R : Room) (E : gS → Prop) (x : gS) : Prop :=
  ∀ (p : Program) (l : Launch) (e : Env) (s : State) (m : MethodId) (args : Array Value) (below : List Frame) (meth : Method) (c : Code) (D : va_G) (ad : Nat → Nat) (cA : Nat → ClassId) (A : Nat → Prop) (H0 : Heap) (cl sl : Nat) (Qf : State → Prop),
    gX M p s m args meth c → cl ≤ R.cells → sl ≤ R.slots → (∀ q : Nat, H0.size ≤ q → A q) →
    (∀ (y : gS) (H : Heap) (locs : List Loc) (ls : Array Slot), E y → gIn M D ad cA A H0 H locs s ls y.2.1 y.2.2.2 → W p l e R s m args below meth c H locs cl sl Qf (F0 m y.1 ls (y.2.2.1.map (gv ad)))) →
    ∀ (H : Heap) (locs : List Loc) (ls : Array Slot), gIn M D ad cA A H0 H locs s ls x.2.1 x.2.2.2 → W p l e R s m args below meth c H locs cl sl Qf (F0 m x.1 ls (x.2.2.1.map (gv ad)))
theorem gw_at {ad : Nat → Nat} {cA : Nat → ClassId} {w : gW} {k j : Nat} {e : gE} (h : w[k]? = some (j, e)) : (gw ad cA w)[k]? = some (ad j, gC ad cA e) := by
  unfold gw
  rw [List.getElem?_map, h]
  rfl
theorem gw_set {ad : Nat → Nat} {cA : Nat → ClassId} {w : gW} {k j : Nat} {e : gE} : gw ad cA (w.set k (j, e)) = (gw ad cA w).set k (ad j, gC ad cA e) := by
  unfold gw
  rw [List.map_set]
  rfl
theorem gv_cat (ad : Nat → Nat) (v : Value) : (gv ad v).category = v.category := by
  cases v <;> rfl
theorem gl_filter1 (ad : Nat → Nat) (i : Nat) (lv : List (Nat × Value)) : (lv.map (gl ad)).filter (fun q => !(q.1 == i) && !(q.1 + 1 == i && q.2.category == 2)) = (lv.filter (fun q => !(q.1 == i) && !(q.1 + 1 == i && q.2.category == 2))).map (gl ad) := by
  rw [List.filter_map]
  congr 1
  apply List.filter_congr
  intro q _
  simp [gl, gv_cat]
theorem gl_filter2 (ad : Nat → Nat) (i : Nat) (lv : List (Nat × Value)) : (lv.map (gl ad)).filter (fun q => !(q.1 == i) && (!(q.1 == i + 1) && !(q.1 + 1 == i && q.2.category == 2))) = (lv.filter (fun q => !(q.1 == i) && (!(q.1 == i + 1) && !(q.1 + 1 == i && q.2.category == 2)))).map (gl ad) := by
  rw [List.filter_map]
  congr 1
  apply List.filter_congr
  intro q _
  simp [gl, gv_cat]
/-- the local at a number -/
def gget : List (Nat × Value) → Nat → Option Value
  | [], _ => none
  | (j, v) :: t, i => bif j == i then some v else gget t i
def gset1 (lv : List (Nat × Value)) (i : Nat) (v : Value) : List (Nat × Value) := (i, v) :: lv.filter (fun q => !(q.1 == i) && !(q.1 + 1 == i && q.2.category == 2))
def gset2 (lv : List (Nat × Value)) (i : Nat) (v : Value) : List (Nat × Value) := (i, v) :: lv.filter (fun q => !(q.1 == i) && (!(q.1 == i + 1) && !(q.1 + 1 == i && q.2.category == 2)))
theorem gget_mem : ∀ {lv : List (Nat × Value)} {i : Nat} {v : Value}, gget lv i = some v → ∃ k : Nat, lv[k]? = some (i, v)
  | [], i, v, h => by cases h
  | (j, u) :: t, i, v, h => by
    unfold gget at h
    by_cases hj : j = i
    · subst hj
      simp at h
      subst h
      exact ⟨0, rfl⟩
    · have : (j == i) = false := by simpa using hj
      rw [this] at h
      obtain ⟨k, hk⟩ := gget_mem (by simpa using h)
      exact ⟨k + 1, hk⟩
theorem gget_at {ad : Nat → Nat} {ls : Array Slot} {nL : Nat} {lv : List (Nat × Value)} {i : Nat} {v : Value} (hl : lv_has ls nL (lv.map (gl ad))) (h : gget lv i = some v) : ls[i]? = some (.val (gv ad v)) := by
  obtain ⟨k, hk⟩ := gget_mem h
  exact lv_at hl k (by rw [List.getElem?_map, hk]; rfl)
/-- a cell by its place number: where it stands in the list, and what it is -/
def gfind : gW → Nat → Nat → Option (Nat × gE)
  | [], _, _ => none
  | (j, e) :: t, k, i => bif j == k then some (i, e) else gfind t k (i + 1)
theorem gfind_spec : ∀ {w : gW} {k i n : Nat} {e : gE}, gfind w k i = some (n, e) → ∃ d : Nat, n = i + d ∧ w[d]? = some (k, e)
  | [], k, i, n, e, h => by cases h
  | (j, e0) :: t, k, i, n, e, h => by
    unfold gfind at h
    by_cases hj : j = k
    · subst hj
      simp at h
      obtain ⟨rfl, rfl⟩ := h
      exact ⟨0, rfl, rfl⟩
    · have : (j == k) = false := by simpa using hj
      rw [this] at h
      obtain ⟨d, rfl, hd⟩ := gfind_spec (by simpa using h)
      exact ⟨d + 1, by omega, hd⟩
theorem gfind_at {w : gW} {k n : Nat} {e : gE} (h : gfind w k 0 = some (n, e)) : w[n]? = some (k, e) := by
  obtain ⟨d, rfl, hd⟩ := gfind_spec h
  simpa using hd
section GoRules
variable {M : gM} {R : Room} {E : gS → Prop} {pc : Nat} {lv : List (Nat × Value)} {st : List Value} {w : gW}
theorem Go.exit {x : gS} (h : E x) : Go M R E x := by
  intro p l e s m args below meth c D ad cA A H0 cl sl Qf X hc hs hA kE H locs ls hI
  exact kE x H locs ls h hI
theorem Go.trans {E1 : gS → Prop} {x : gS} (h : Go M R E1 x) (k : ∀ y, E1 y → Go M R E y) : Go M R E x := by
  intro p l e s m args below meth c D ad cA A H0 cl sl Qf X hc hs hA kE H locs ls hI
  exact h p l e s m args below meth c D ad cA A H0 cl sl Qf X hc hs hA (fun y H1 locs1 ls1 hy hI1 => k y hy p l e s m args below meth c D ad cA A H0 cl sl Qf X hc hs hA kE H1 locs1 ls1 hI1) H locs ls hI
/-- an instruction that changes the operand stack alone -/
theorem Go.stk {pc' : Nat} {st' : List Value} (hstep : ∀ (p : Program) (l : Launch) (e : Env) (s : State) (m : MethodId) (args : Array Value) (below : List Frame) (meth : Method) (c : Code) (ad : Nat → Nat) (cl sl : Nat) (Qf : State → Prop) (H : Heap) (locs : List Loc) (ls : Array Slot), gX M p s m args meth c → lv_has ls M.2.2.1 (lv.map (gl ad)) → W p l e R s m args below meth c H locs cl sl Qf (F0 m pc' ls (st'.map (gv ad))) → W p l e R s m args below meth c H locs cl sl Qf (F0 m pc ls (st.map (gv ad)))) (k : Go M R E (pc', lv, st', w)) : Go M R E (pc, lv, st, w) := by
  intro p l e s m args below meth c D ad cA A H0 cl sl Qf X hc hs hA kE H locs ls hI
  exact hstep p l e s m args below meth c ad cl sl Qf H locs ls X hI.2.2.2.2 (k p l e s m args below meth c D ad cA A H0 cl sl Qf X hc hs hA kE H locs ls hI)
end GoRules
end
section
/-! One instruction over a state, as a function, and its soundness. -/
def gAll : List Prop → Prop
  | [] => True
  | c :: t => c ∧ gAll t
/-- what the pools of a class say: fields (pool index, class number of the object, field number), int constants, long constants -/
abbrev gI : Type := List (Nat × Nat × Nat) × List (Nat × Int32) × List (Nat × Int64)
def gFok (own : String) (q : Nat × Nat × Nat) : Prop := ∃ (C : String) (T : u_T) (N : Nat) (ref : String) (ty : Nat → FieldType), vwCl[q.2.1]? = some (C, T, N) ∧ q.2.2 < N ∧ Cond.fieldLink own q.1 ref (T q.2.2).2.1 (T q.2.2).2.2.1 ∈ gTB ∧ (ref = (T q.2.2).1 ∨ Cond.sameField ref (T q.2.2).1 (T q.2.2).2.1 (T q.2.2).2.2.1 ∈ gTB) ∧ (∀ w ∈ u_ws C T N, w ∈ gTB) ∧ (∀ k, k < N → parseFieldDescriptor (T k).2.2.1 = some (ty k)) ∧ (∀ a, a < N → ∀ b, b < N → a ≠ b → (T a).2.1 ≠ (T b).2.1)
def gIok (own : String) (I : gI) : Prop := (∀ q ∈ I.1, gFok own q) ∧ (∀ q ∈ I.2.1, Cond.constant own q.1 q.2 ∈ gTB) ∧ (∀ q ∈ I.2.2, Cond.constantLong own q.1 q.2 ∈ gTB)
def gfk : List (Nat × Nat × Nat) → Nat → Nat → Option Nat
  | [], _, _ => none
  | (i, ci, k) :: t, j, cj => bif i == j && ci == cj then some k else gfk t j cj
theorem gfk_mem : ∀ {l : List (Nat × Nat × Nat)} {j cj k : Nat}, gfk l j cj = some k → (j, cj, k) ∈ l
  | [], j, cj, k, h => by cases h
  | (i, ci, k0) :: t, j, cj, k, h => by
    unfold gfk at h
    by_cases hb : (i == j && ci == cj) = true
    · rw [hb] at h
      simp at hb h
      obtain ⟨rfl, rfl⟩ := hb
      subst h
      exact List.mem_cons_self
    · have hb : (i == j && ci == cj) = false := by simpa using hb
      rw [hb] at h
      exact List.mem_cons_of_mem _ (gfk_mem (by simpa using h))
def gck {α : Type} : List (Nat × α) → Nat → Option α
  | [], _ => none
  | (i, v) :: t, j => bif i == j then some v else gck t j
theorem gck_mem {α : Type} : ∀ {l : List (Nat × α)} {j : Nat} {v : α}, gck l j = some v → (j, v) ∈ l
  | [], j, v, h => by cases h
  | (i, u) :: t, j, v, h => by
    unfold gck at h
    by_cases hb : i = j
    · subst hb
      simp at h
      subst h
      exact List.mem_cons_self
    · have hb : (i == j) = false := by simpa using hb
      rw [hb] at h
      exact List.mem_cons_of_mem _ (gck_mem (by simpa using h))
/-- may a field of this type take this value as it is -/
def gfits : FieldType → Value → Bool
  | .int, .int _ => true
  | .long, .long _ => true
  | .boolean, .int v => v == 0 || v == 1
  | .object _, .ref _ => true
  | .array _, .ref _ => true
  | .object _, .null => true
  | .array _, .null => true
  | _, _ => false
theorem gfits_spec {ty : FieldType} {v : Value} (ad : Nat → Nat) (h : gfits ty v = true) : narrow ty (gv ad v) = gv ad v ∧ fits ty (gv ad v) = true := by
  cases ty <;> cases v <;> simp [gfits] at h <;> first
    | exact ⟨rfl, rfl⟩
    | (rcases h with rfl | rfl <;> exact ⟨rfl, rfl⟩)
def glen : Instr → Nat
  | .bipush _ | .iload _ | .lload _ | .aload _ | .istore _ | .lstore _ | .astore _ | .ldc _ | .newarray _ => 2
  | .sipush _ | .iinc _ _ | .ldc2_w _ | .ldc_w _ | .getfield _ | .putfield _ | .goto _ | .ifCond _ _ | .if_icmp _ _ | .ifnull _ | .ifnonnull _ | .invokevirtual _ | .invokestatic _ | .invokespecial _ | .new _ | .anewarray _ => 3
  | _ => 1
def gbin : Instr → Option (Int32 → Int32 → Int32)
  | .iadd => some (fun x y => x + y)
  | .isub => some (fun x y => x - y)
  | .imul => some (fun x y => x * y)
  | .iand => some (fun x y => x &&& y)
  | .ior => some (fun x y => x ||| y)
  | .ixor => some (fun x y => x ^^^ y)
  | .ishl => some (fun x y => x <<< (y &&& 31))
  | .ishr => some (fun x y => x >>> (y &&& 31))
  | .iushr => some (fun x y => (x.toUInt32 >>> (y.toUInt32 &&& Int32.toUInt32 31)).toInt32)
  | _ => none
def glbin : Instr → Option (Int64 → Int64 → Int64)
  | .ladd => some (fun x y => x + y)
  | .lsub => some (fun x y => x - y)
  | .land => some (fun x y => x &&& y)
  | .lor => some (fun x y => x ||| y)
  | _ => none
def glsh : Instr → Option (Int64 → Int32 → Int64)
  | .lshl => some (fun x y => x <<< (y.toInt64 &&& 63))
  | .lshr => some (fun x y => x >>> (y.toInt64 &&& 63))
  | .lushr => some (fun x y => (x.toUInt64 >>> (y.toInt64.toUInt64 &&& Int64.toUInt64 63)).toInt64)
  | _ => none
section InsRules
variable {M : gM} {R : Room} {E : gS → Prop} {pc : Nat} {lv : List (Nat × Value)} {st : List Value} {w : gW}
theorem gx_bin {ins : Instr} {f : Int32 → Int32 → Int32} {a b : Int32} (h : gbin ins = some f) (hd : decode M.2.1 pc = .ok (ins, 1)) (k : Go M R E (pc + 1, lv, .int (f a b) :: st, w)) : Go M R E (pc, lv, .int b :: .int a :: st, w) := by
  refine Go.stk (fun p l e s m args below meth c ad cl sl Qf H locs ls X hl kk => ?_) k
  cases ins <;> simp only [gbin, Option.some.injEq, reduceCtorEq] at h <;> subst h
  · exact lv_iadd X.1 X.2.1 hd kk
  · exact lv_iand X.1 X.2.1 hd kk
  · exact lv_imul X.1 X.2.1 hd kk
  · exact lv_ior X.1 X.2.1 hd kk
  · exact lv_ishl X.1 X.2.1 hd kk
  · exact lv_ishr X.1 X.2.1 hd kk
  · exact lv_isub X.1 X.2.1 hd kk
  · exact lv_iushr X.1 X.2.1 hd rfl kk
  · exact lv_ixor X.1 X.2.1 hd kk
theorem gx_lbin {ins : Instr} {f : Int64 → Int64 → Int64} {a b : Int64} (h : glbin ins = some f) (hd : decode M.2.1 pc = .ok (ins, 1)) (k : Go M R E (pc + 1, lv, .long (f a b) :: st, w)) : Go M R E (pc, lv, .long b :: .long a :: st, w) := by
  refine Go.stk (fun p l e s m args below meth c ad cl sl Qf H locs ls X hl kk => ?_) k
  cases ins <;> simp only [glbin, Option.some.injEq, reduceCtorEq] at h <;> subst h
  · exact lv_ladd X.1 X.2.1 hd kk
  · exact lv_land X.1 X.2.1 hd kk
  · exact lv_lor X.1 X.2.1 hd kk
  · exact lv_lsub X.1 X.2.1 hd kk
theorem gx_lsh {ins : Instr} {f : Int64 → Int32 → Int64} {a : Int64} {b : Int32} (h : glsh ins = some f) (hd : decode M.2.1 pc = .ok (ins, 1)) (k : Go M R E (pc + 1, lv, .long (f a b) :: st, w)) : Go M R E (pc, lv, .int b :: .long a :: st, w) := by
  refine Go.stk (fun p l e s m args below meth c ad cl sl Qf H locs ls X hl kk => ?_) k
  cases ins <;> simp only [glsh, Option.some.injEq, reduceCtorEq] at h <;> subst h
  · exact lv_lshl X.1 X.2.1 hd rfl kk
  · exact lv_lshr X.1 X.2.1 hd rfl kk
  · exact lv_lushr X.1 X.2.1 hd rfl kk
theorem gx_load {ins : Instr} {i n : Nat} {v : Value} (hi : ins = .iload i ∧ n = 2 ∨ ins = .aload i ∧ n = 2 ∨ ins = .lload i ∧ n = 2 ∨ (∃ k : Fin 4, (k : Nat) = i ∧ n = 1 ∧ (ins = .iload_n k ∨ ins = .aload_n k ∨ ins = .lload_n k))) (hv : gget lv i = some v) (ht : match ins with
    | .iload _ | .iload_n _ => ∃ x, v = .int x
    | .lload _ | .lload_n _ => ∃ x, v = .long x
    | _ => v = .null ∨ ∃ x, v = .ref x) (hd : decode M.2.1 pc = .ok (ins, n)) (k : Go M R E (pc + n, lv, v :: st, w)) : Go M R E (pc, lv, st, w) := by
  refine Go.stk (fun p l e s m args below meth c ad cl sl Qf H locs ls X hl kk => ?_) k
  have hg := gget_at hl hv
  rcases hi with ⟨rfl, rfl⟩ | ⟨rfl, rfl⟩ | ⟨rfl, rfl⟩ | ⟨q, hq, rfl, rfl | rfl | rfl⟩ <;> simp only at ht
  · obtain ⟨x, rfl⟩ := ht
    exact lv_iload X.1 X.2.1 hd hg kk
  · rcases ht with rfl | ⟨x, rfl⟩
    · exact lv_aloadN X.1 X.2.1 hd hg kk
    · exact lv_aload X.1 X.2.1 hd hg kk
  · obtain ⟨x, rfl⟩ := ht
    exact lv_lload X.1 X.2.1 hd hg kk
  · obtain ⟨x, rfl⟩ := ht
    exact lv_iload_n X.1 X.2.1 hd hq hg kk
  · rcases ht with rfl | ⟨x, rfl⟩
    · exact lv_aload_nN X.1 X.2.1 hd hq hg kk
    · exact lv_aload_n X.1 X.2.1 hd hq hg kk
  · obtain ⟨x, rfl⟩ := ht
    exact lv_lload_n X.1 X.2.1 hd hq hg kk
theorem gx_set1 {i n : Nat} {v : Value} (hv : v.category = 1) (hn : i < M.2.2.1) (hstep : ∀ (p : Program) (l : Launch) (e : Env) (s : State) (m : MethodId) (args : Array Value) (below : List Frame) (meth : Method) (c : Code) (ad : Nat → Nat) (cl sl : Nat) (Qf : State → Prop) (H : Heap) (locs : List Loc) (ls : Array Slot), gX M p s m args meth c → lv_has ls M.2.2.1 (lv.map (gl ad)) → (∀ ls' : Array Slot, lv_has ls' M.2.2.1 ((i, gv ad v) :: (lv.map (gl ad)).filter (fun q => !(q.1 == i) && !(q.1 + 1 == i && q.2.category == 2))) → W p l e R s m args below meth c H locs cl sl Qf (F0 m (pc + n) ls' (st.map (gv ad)))) → W p l e R s m args below meth c H locs cl sl Qf (F0 m pc ls ((v :: st).map (gv ad)))) (k : Go M R E (pc + n, gset1 lv i v, st, w)) : Go M R E (pc, lv, v :: st, w) := by
  intro p l e s m args below meth c D ad cA A H0 cl sl Qf X hc hs hA kE H locs ls hI
  refine hstep p l e s m args below meth c ad cl sl Qf H locs ls X hI.2.2.2.2 (fun ls' hl' => ?_)
  refine k p l e s m args below meth c D ad cA A H0 cl sl Qf X hc hs hA kE H locs ls' ⟨hI.1, hI.2.1, hI.2.2.1, hI.2.2.2.1, ?_⟩
  rw [gl_filter1] at hl'
  exact hl'
theorem gx_istore {ins : Instr} {i n : Nat} {x : Int32} (hi : ins = .istore i ∧ n = 2 ∨ (∃ k : Fin 4, (k : Nat) = i ∧ n = 1 ∧ ins = .istore_n k)) (hn : i < M.2.2.1) (hd : decode M.2.1 pc = .ok (ins, n)) (k : Go M R E (pc + n, gset1 lv i (.int x), st, w)) : Go M R E (pc, lv, .int x :: st, w) := by
  refine gx_set1 rfl hn (fun p l e s m args below meth c ad cl sl Qf H locs ls X hl kk => ?_) k
  rcases hi with ⟨rfl, rfl⟩ | ⟨q, hq, rfl, rfl⟩
  · exact lv_istore X.1 X.2.1 hd hl hn rfl kk
  · exact lv_istore_n X.1 X.2.1 hd hq hl hn rfl kk
theorem gx_astore {ins : Instr} {i n : Nat} {v : Value} (hi : ins = .astore i ∧ n = 2 ∨ (∃ k : Fin 4, (k : Nat) = i ∧ n = 1 ∧ ins = .astore_n k)) (hv : v = .null ∨ ∃ x, v = .ref x) (hn : i < M.2.2.1) (hd : decode M.2.1 pc = .ok (ins, n)) (k : Go M R E (pc + n, gset1 lv i v, st, w)) : Go M R E (pc, lv, v :: st, w) := by
  refine gx_set1 (by rcases hv with rfl | ⟨x, rfl⟩ <;> rfl) hn (fun p l e s m args below meth c ad cl sl Qf H locs ls X hl kk => ?_) k
  rcases hv with rfl | ⟨x, rfl⟩
  · rcases hi with ⟨rfl, rfl⟩ | ⟨q, hq, rfl, rfl⟩
    · exact lv_astoreN X.1 X.2.1 hd hl hn rfl kk
    · exact lv_astore_nN X.1 X.2.1 hd hq hl hn rfl kk
  · rcases hi with ⟨rfl, rfl⟩ | ⟨q, hq, rfl, rfl⟩
    · exact lv_astore X.1 X.2.1 hd hl hn rfl kk
    · exact lv_astore_n X.1 X.2.1 hd hq hl hn rfl kk
theorem gx_lstore {ins : Instr} {i n : Nat} {x : Int64} (hi : ins = .lstore i ∧ n = 2 ∨ (∃ k : Fin 4, (k : Nat) = i ∧ n = 1 ∧ ins = .lstore_n k)) (hn : i + 1 < M.2.2.1) (hd : decode M.2.1 pc = .ok (ins, n)) (k : Go M R E (pc + n, gset2 lv i (.long x), st, w)) : Go M R E (pc, lv, .long x :: st, w) := by
  intro p l e s m args below meth c D ad cA A H0 cl sl Qf X hc hs hA kE H locs ls hI
  have kk : ∀ ls' : Array Slot, lv_has ls' M.2.2.1 ((i, Value.long x) :: (lv.map (gl ad)).filter (fun q => !(q.1 == i) && (!(q.1 == i + 1) && !(q.1 + 1 == i && q.2.category == 2)))) → W p l e R s m args below meth c H locs cl sl Qf (F0 m (pc + n) ls' (st.map (gv ad))) := by
    intro ls' hl'
    refine k p l e s m args below meth c D ad cA A H0 cl sl Qf X hc hs hA kE H locs ls' ⟨hI.1, hI.2.1, hI.2.2.1, hI.2.2.2.1, ?_⟩
    rw [gl_filter2] at hl'
    exact hl'
  rcases hi with ⟨rfl, rfl⟩ | ⟨q, hq, rfl, rfl⟩
  · exact lv_lstore X.1 X.2.1 hd hI.2.2.2.2 hn rfl kk
  · exact lv_lstore_n X.1 X.2.1 hd hq hI.2.2.2.2 hn rfl kk
theorem gx_iinc {i : Nat} {n : Int} {x : Int32} (hg : gget lv i = some (.int x)) (hn : i < M.2.2.1) (hd : decode M.2.1 pc = .ok (.iinc i n, 3)) (k : Go M R E (pc + 3, gset1 lv i (.int (x + Int32.ofInt n)), st, w)) : Go M R E (pc, lv, st, w) := by
  intro p l e s m args below meth c D ad cA A H0 cl sl Qf X hc hs hA kE H locs ls hI
  obtain ⟨j, hj⟩ := gget_mem hg
  refine lv_iinc (k := j) X.1 X.2.1 hd hI.2.2.2.2 (by rw [List.getElem?_map, hj]; rfl) rfl hn rfl (fun ls' hl' => ?_)
  refine k p l e s m args below meth c D ad cA A H0 cl sl Qf X hc hs hA kE H locs ls' ⟨hI.1, hI.2.1, hI.2.2.1, hI.2.2.2.1, ?_⟩
  rw [gl_filter1] at hl'
  exact hl'
theorem gx_get {I : gI} (hI : gIok M.1.cls I) {idx a n ci f : Nat} {fs : List Value} {v : Value} (hf : gfind w a 0 = some (n, .inr (ci, fs))) (hk : gfk I.1 idx ci = some f) (hv : fs[f]? = some v) (hd : decode M.2.1 pc = .ok (.getfield idx, 3)) (k : Go M R E (pc + 3, lv, v :: st, w)) : Go M R E (pc, lv, .ref a :: st, w) := by
  intro p l e s m args below meth c D ad cA A H0 cl sl Qf X hc hs hA kE H locs ls hN
  obtain ⟨C, T, N, ref, ty, h1, h2, h3, h4, h5, h6, h7⟩ := hI.1 _ (gfk_mem hk)
  refine va_get (Ts := gTB) (ref := ref) X.1 X.2.1 X.2.2.2.2.2.1 h5 X.2.2.2.2.1 hN.1 hN.2.1 n (gw_at (gfind_at hf)) h1 f h2 (X.2.2.2.2.2.1 _ h3) ?_ (v := gv ad v) ?_ hd (k p l e s m args below meth c D ad cA A H0 cl sl Qf X hc hs hA kE H locs ls hN)
  · rcases h4 with rfl | h4
    · exact fun _ h9 => h9
    · exact fun x9 h9 => u_same (X.2.2.2.2.2.1 _ h4) x9 h9
  · rw [List.getElem?_map, hv]
    rfl
theorem gx_put {I : gI} (hI : gIok M.1.cls I) {idx a n ci f : Nat} {fs : List Value} {v : Value} (hf : gfind w a 0 = some (n, .inr (ci, fs))) (hk : gfk I.1 idx ci = some f) (hq : (match vwCl[ci]? with
    | some q => !(q.2.1 f).2.2.2 && (match parseFieldDescriptor (q.2.1 f).2.2.1 with
      | some ty => gfits ty v
      | none => false)
    | none => false) = true) (hl : f < fs.length) (hd : decode M.2.1 pc = .ok (.putfield idx, 3)) (k : Go M R E (pc + 3, lv, st, w.set n (a, .inr (ci, fs.set f v)))) : Go M R E (pc, lv, v :: .ref a :: st, w) := by
  intro p l e s m args below meth c D ad cA A H0 cl sl Qf X hc hs hA kE H locs ls hN
  obtain ⟨C, T, N, ref, ty, h1, h2, h3, h4, h5, h6, h7⟩ := hI.1 _ (gfk_mem hk)
  dsimp only at h1 h2
  rw [h1] at hq
  simp only [Bool.and_eq_true, Bool.not_eq_true'] at hq
  obtain ⟨q1, q2⟩ := hq
  have h6f := h6 f h2
  rw [h6f] at q2
  obtain ⟨n1, n2⟩ := gfits_spec ad q2
  refine va_put (Ts := gTB) (ref := ref) (v := gv ad v) (ty := ty f) X.1 X.2.1 X.2.2.2.2.2.1 h5 ty h6 h7 X.2.2.2.2.1 hN.1 hN.2.1 hN.2.2.1 hN.2.2.2.1 n (gw_at (gfind_at hf)) h1 f h2 (X.2.2.2.2.2.1 _ h3) ?_ q1 h6f n1 n2 (by rw [List.length_map]; exact hl) hd (fun H1 locs1 p1 p2 p3 => ?_)
  · rcases h4 with rfl | h4
    · exact fun _ h9 => h9
    · exact fun x9 h9 => u_same (X.2.2.2.2.2.1 _ h4) x9 h9
  · refine k p l e s m args below meth c D ad cA A H0 cl sl Qf X hc hs hA kE H1 locs1 ls ⟨hN.1, ?_, ?_, p3, hN.2.2.2.2⟩
    · show va_P D vwCl (gw ad cA (w.set n (a, .inr (ci, fs.set f v)))) H1
      rw [gw_set, gC, List.map_set]
      exact p1
    · show va_D A (gw ad cA (w.set n (a, .inr (ci, fs.set f v))))
      rw [gw_set, gC, List.map_set]
      exact p2
theorem gx_iald {a n z : Nat} {g : Nat → Int32} {i : Int32} (hf : gfind w a 0 = some (n, .inl (0, z, .inl g))) (hin : vp_in i z) (hd : decode M.2.1 pc = .ok (.iaload, 1)) (k : Go M R E (pc + 1, lv, .int (g i.toNatClampNeg) :: st, w)) : Go M R E (pc, lv, .int i :: .ref a :: st, w) := by
  intro p l e s m args below meth c D ad cA A H0 cl sl Qf X hc hs hA kE H locs ls hN
  exact va_iald X.1 X.2.1 hN.1 hN.2.1 n 0 (gw_at (gfind_at hf)) rfl hin hd (k p l e s m args below meth c D ad cA A H0 cl sl Qf X hc hs hA kE H locs ls hN)
theorem gx_lald {a n z : Nat} {g : Nat → Int64} {i : Int32} (hf : gfind w a 0 = some (n, .inl (1, z, .inr (.inl g)))) (hin : vp_in i z) (hd : decode M.2.1 pc = .ok (.laload, 1)) (k : Go M R E (pc + 1, lv, .long (g i.toNatClampNeg) :: st, w)) : Go M R E (pc, lv, .int i :: .ref a :: st, w) := by
  intro p l e s m args below meth c D ad cA A H0 cl sl Qf X hc hs hA kE H locs ls hN
  exact va_lald X.1 X.2.1 hN.1 hN.2.1 n 1 (gw_at (gfind_at hf)) rfl hin hd (k p l e s m args below meth c D ad cA A H0 cl sl Qf X hc hs hA kE H locs ls hN)
theorem gx_aald {a n z : Nat} {g : Nat → Option Nat} {i : Int32} (hf : gfind w a 0 = some (n, .inl (2, z, .inr (.inr (.inr (.inr g)))))) (hin : vp_in i z) (hd : decode M.2.1 pc = .ok (.aaload, 1)) (k : Go M R E (pc + 1, lv, va_rf (g i.toNatClampNeg) :: st, w)) : Go M R E (pc, lv, .int i :: .ref a :: st, w) := by
  intro p l e s m args below meth c D ad cA A H0 cl sl Qf X hc hs hA kE H locs ls hN
  refine va_aldq (C := RX6) X.1 X.2.1 hN.1 hN.2.1 n 2 (gw_at (gfind_at hf)) rfl hin hd ?_
  have e0 : va_rf ((g i.toNatClampNeg).map ad) = gv ad (va_rf (g i.toNatClampNeg)) := by cases g i.toNatClampNeg <;> rfl
  rw [e0]
  exact k p l e s m args below meth c D ad cA A H0 cl sl Qf X hc hs hA kE H locs ls hN
theorem gx_iast {a n z : Nat} {g : Nat → Int32} {i v : Int32} (hf : gfind w a 0 = some (n, .inl (0, z, .inl g))) (hin : vp_in i z) (hd : decode M.2.1 pc = .ok (.iastore, 1)) (k : Go M R E (pc + 1, lv, st, w.set n (a, .inl (0, z, .inl (upd g i.toNatClampNeg v))))) : Go M R E (pc, lv, .int v :: .int i :: .ref a :: st, w) := by
  intro p l e s m args below meth c D ad cA A H0 cl sl Qf X hc hs hA kE H locs ls hN
  refine va_iast X.1 X.2.1 hN.1 hN.2.1 hN.2.2.1 hN.2.2.2.1 n 0 (gw_at (gfind_at hf)) rfl hin hd (fun H1 locs1 p1 p2 p3 => ?_)
  refine k p l e s m args below meth c D ad cA A H0 cl sl Qf X hc hs hA kE H1 locs1 ls ⟨hN.1, ?_, ?_, p3, hN.2.2.2.2⟩
  · show va_P D vwCl (gw ad cA (w.set n _)) H1
    rw [gw_set]
    exact p1
  · show va_D A (gw ad cA (w.set n _))
    rw [gw_set]
    exact p2
theorem gx_last {a n z : Nat} {g : Nat → Int64} {i : Int32} {v : Int64} (hf : gfind w a 0 = some (n, .inl (1, z, .inr (.inl g)))) (hin : vp_in i z) (hd : decode M.2.1 pc = .ok (.lastore, 1)) (k : Go M R E (pc + 1, lv, st, w.set n (a, .inl (1, z, .inr (.inl (vp_updL g i.toNatClampNeg v)))))) : Go M R E (pc, lv, .long v :: .int i :: .ref a :: st, w) := by
  intro p l e s m args below meth c D ad cA A H0 cl sl Qf X hc hs hA kE H locs ls hN
  refine va_last X.1 X.2.1 hN.1 hN.2.1 hN.2.2.1 hN.2.2.2.1 n 1 (gw_at (gfind_at hf)) rfl hin hd (fun H1 locs1 p1 p2 p3 => ?_)
  refine k p l e s m args below meth c D ad cA A H0 cl sl Qf X hc hs hA kE H1 locs1 ls ⟨hN.1, ?_, ?_, p3, hN.2.2.2.2⟩
  · show va_P D vwCl (gw ad cA (w.set n _)) H1
    rw [gw_set]
    exact p1
  · show va_D A (gw ad cA (w.set n _))
    rw [gw_set]
    exact p2
theorem gx_alen {a n t z : Nat} {g : (Nat → Int32) ⊕ (Nat → Int64) ⊕ (Nat → UInt32) ⊕ (Nat → UInt64) ⊕ (Nat → Option Nat)} (hf : gfind w a 0 = some (n, .inl (t, z, g))) (ht : t < 3) (hd : decode M.2.1 pc = .ok (.arraylength, 1)) (k : Go M R E (pc + 1, lv, .int (Int32.ofNat z) :: st, w)) : Go M R E (pc, lv, .ref a :: st, w) := by
  intro p l e s m args below meth c D ad cA A H0 cl sl Qf X hc hs hA kE H locs ls hN
  have h9 : (gA ad (z, g)).1 = z := by
    rcases g with g | g | g | g | g <;> rfl
  refine va_alen (ty := if t = 0 then .int else if t = 1 then .long else .object RX6) X.1 X.2.1 hN.1 hN.2.1 n t (gw_at (gfind_at hf)) ?_ (by rw [h9]) hd (k p l e s m args below meth c D ad cA A H0 cl sl Qf X hc hs hA kE H locs ls hN)
  rcases (show t = 0 ∨ t = 1 ∨ t = 2 by omega) with rfl | rfl | rfl <;> rfl
end InsRules
end
section
/-! An instruction as a function (g2), a stretch of instructions (prun), branches, ends. -/
def gvp (i : Int32) (n : Nat) : Prop := ¬ (i < 0 ∨ n ≤ i.toNatClampNeg)
def g2 (I : gI) (nL : Nat) (ins : Instr) (pc : Nat) (lv : List (Nat × Value)) (st : List Value) (w : gW) : Option (gS × List Prop) :=
  match ins with
  | .iconst n => some ((pc + 1, lv, .int (Int32.ofInt n) :: st, w), [])
  | .bipush n => some ((pc + 2, lv, .int (Int8.ofInt n).toInt32 :: st, w), [])
  | .sipush n => some ((pc + 3, lv, .int (Int16.ofInt n).toInt32 :: st, w), [])
  | .lconst n => some ((pc + 1, lv, .long (Int64.ofNat (n : Nat)) :: st, w), [])
  | .aconst_null => some ((pc + 1, lv, .null :: st, w), [])
  | .ldc i => match gck I.2.1 i with
    | some v => some ((pc + 2, lv, .int v :: st, w), [])
    | none => none
  | .ldc_w i => match gck I.2.1 i with
    | some v => some ((pc + 3, lv, .int v :: st, w), [])
    | none => none
  | .ldc2_w i => match gck I.2.2 i with
    | some v => some ((pc + 3, lv, .long v :: st, w), [])
    | none => none
  | .iload i => match gget lv i with
    | some (.int v) => some ((pc + 2, lv, .int v :: st, w), [])
    | _ => none
  | .iload_n i => match gget lv (i : Nat) with
    | some (.int v) => some ((pc + 1, lv, .int v :: st, w), [])
    | _ => none
  | .lload i => match gget lv i with
    | some (.long v) => some ((pc + 2, lv, .long v :: st, w), [])
    | _ => none
  | .lload_n i => match gget lv (i : Nat) with
    | some (.long v) => some ((pc + 1, lv, .long v :: st, w), [])
    | _ => none
  | .aload i => match gget lv i with
    | some (.ref v) => some ((pc + 2, lv, .ref v :: st, w), [])
    | some .null => some ((pc + 2, lv, .null :: st, w), [])
    | _ => none
  | .aload_n i => match gget lv (i : Nat) with
    | some (.ref v) => some ((pc + 1, lv, .ref v :: st, w), [])
    | some .null => some ((pc + 1, lv, .null :: st, w), [])
    | _ => none
  | .istore i => match st with
    | .int v :: st => bif Nat.blt i nL then some ((pc + 2, gset1 lv i (.int v), st, w), []) else none
    | _ => none
  | .istore_n i => match st with
    | .int v :: st => bif Nat.blt (i : Nat) nL then some ((pc + 1, gset1 lv (i : Nat) (.int v), st, w), []) else none
    | _ => none
  | .lstore i => match st with
    | .long v :: st => bif Nat.blt (i + 1) nL then some ((pc + 2, gset2 lv i (.long v), st, w), []) else none
    | _ => none
  | .lstore_n i => match st with
    | .long v :: st => bif Nat.blt ((i : Nat) + 1) nL then some ((pc + 1, gset2 lv (i : Nat) (.long v), st, w), []) else none
    | _ => none
  | .astore i => match st with
    | .ref v :: st => bif Nat.blt i nL then some ((pc + 2, gset1 lv i (.ref v), st, w), []) else none
    | .null :: st => bif Nat.blt i nL then some ((pc + 2, gset1 lv i .null, st, w), []) else none
    | _ => none
  | .astore_n i => match st with
    | .ref v :: st => bif Nat.blt (i : Nat) nL then some ((pc + 1, gset1 lv (i : Nat) (.ref v), st, w), []) else none
    | .null :: st => bif Nat.blt (i : Nat) nL then some ((pc + 1, gset1 lv (i : Nat) .null, st, w), []) else none
    | _ => none
  | .iinc i n => match gget lv i with
    | some (.int v) => bif Nat.blt i nL then some ((pc + 3, gset1 lv i (.int (v + Int32.ofInt n)), st, w), []) else none
    | _ => none
  | .i2l => match st with
    | .int v :: st => some ((pc + 1, lv, .long v.toInt64 :: st, w), [])
    | _ => none
  | .l2i => match st with
    | .long v :: st => some ((pc + 1, lv, .int v.toInt32 :: st, w), [])
    | _ => none
  | .i2s => match st with
    | .int v :: st => some ((pc + 1, lv, .int v.toInt16.toInt32 :: st, w), [])
    | _ => none
  | .ineg => match st with
    | .int v :: st => some ((pc + 1, lv, .int (-v) :: st, w), [])
    | _ => none
  | .lcmp => match st with
    | .long b :: .long a :: st => some ((pc + 1, lv, .int (lg_cmp a b) :: st, w), [])
    | _ => none
  | .idiv => match st with
    | .int b :: .int a :: st => some ((pc + 1, lv, .int (a / b) :: st, w), [¬ b = 0])
    | _ => none
  | .irem => match st with
    | .int b :: .int a :: st => some ((pc + 1, lv, .int (a - a / b * b) :: st, w), [¬ b = 0])
    | _ => none
  | .dup => match st with
    | .int v :: st => some ((pc + 1, lv, .int v :: .int v :: st, w), [])
    | .ref v :: st => some ((pc + 1, lv, .ref v :: .ref v :: st, w), [])
    | _ => none
  | .dup2 => match st with
    | .int v :: .ref u :: st => some ((pc + 1, lv, .int v :: .ref u :: .int v :: .ref u :: st, w), [])
    | _ => none
  | .pop => match st with
    | .int _ :: st => some ((pc + 1, lv, st, w), [])
    | _ => none
  | .getfield i => match st with
    | .ref a :: st => match gfind w a 0 with
      | some (_, .inr (ci, fs)) => match gfk I.1 i ci with
        | some f => match fs[f]? with
          | some v => some ((pc + 3, lv, v :: st, w), [])
          | none => none
        | none => none
      | _ => none
    | _ => none
  | .putfield i => match st with
    | v :: .ref a :: st => match gfind w a 0 with
      | some (n, .inr (ci, fs)) => match gfk I.1 i ci with
        | some f => bif (match vwCl[ci]? with
              | some q => !(q.2.1 f).2.2.2 && (match parseFieldDescriptor (q.2.1 f).2.2.1 with
                | some ty => gfits ty v
                | none => false)
              | none => false) && Nat.blt f fs.length then some ((pc + 3, lv, st, w.set n (a, .inr (ci, fs.set f v))), []) else none
        | none => none
      | _ => none
    | _ => none
  | .iaload => match st with
    | .int i :: .ref a :: st => match gfind w a 0 with
      | some (_, .inl (0, z, .inl g)) => some ((pc + 1, lv, .int (g i.toNatClampNeg) :: st, w), [gvp i z])
      | _ => none
    | _ => none
  | .laload => match st with
    | .int i :: .ref a :: st => match gfind w a 0 with
      | some (_, .inl (1, z, .inr (.inl g))) => some ((pc + 1, lv, .long (g i.toNatClampNeg) :: st, w), [gvp i z])
      | _ => none
    | _ => none
  | .aaload => match st with
    | .int i :: .ref a :: st => match gfind w a 0 with
      | some (_, .inl (2, z, .inr (.inr (.inr (.inr g))))) => some ((pc + 1, lv, va_rf (g i.toNatClampNeg) :: st, w), [gvp i z])
      | _ => none
    | _ => none
  | .iastore => match st with
    | .int v :: .int i :: .ref a :: st => match gfind w a 0 with
      | some (n, .inl (0, z, .inl g)) => some ((pc + 1, lv, st, w.set n (a, .inl (0, z, .inl (upd g i.toNatClampNeg v)))), [gvp i z])
      | _ => none
    | _ => none
  | .lastore => match st with
    | .long v :: .int i :: .ref a :: st => match gfind w a 0 with
      | some (n, .inl (1, z, .inr (.inl g))) => some ((pc + 1, lv, st, w.set n (a, .inl (1, z, .inr (.inl (vp_updL g i.toNatClampNeg v))))), [gvp i z])
      | _ => none
    | _ => none
  | .arraylength => match st with
    | .ref a :: st => match gfind w a 0 with
      | some (_, .inl (t, z, _)) => bif Nat.blt t 3 then some ((pc + 1, lv, .int (Int32.ofNat z) :: st, w), []) else none
      | _ => none
    | _ => none
  | .goto off => match ((pc : Int) + off) with
    | .ofNat t => some ((t, lv, st, w), [])
    | _ => none
  | ins => match gbin ins with
    | some f => match st with
      | .int b :: .int a :: st => some ((pc + 1, lv, .int (f a b) :: st, w), [])
      | _ => none
    | none => match glbin ins with
      | some f => match st with
        | .long b :: .long a :: st => some ((pc + 1, lv, .long (f a b) :: st, w), [])
        | _ => none
      | none => match glsh ins with
        | some f => match st with
          | .int b :: .long a :: st => some ((pc + 1, lv, .long (f a b) :: st, w), [])
          | _ => none
        | none => none
section RunRules
variable {M : gM} {R : Room} {E : gS → Prop} {pc : Nat} {lv : List (Nat × Value)} {st : List Value} {w : gW}
theorem gx_topstk {pc' : Nat} {st' : List Value} (hstep : ∀ (p : Program) (l : Launch) (e : Env) (s : State) (m : MethodId) (args : Array Value) (below : List Frame) (meth : Method) (c : Code) (ad : Nat → Nat) (cl sl : Nat) (Qf : State → Prop) (H : Heap) (locs : List Loc) (ls : Array Slot), gX M p s m args meth c → W p l e R s m args below meth c H locs cl sl Qf (F0 m pc' ls (st'.map (gv ad))) → W p l e R s m args below meth c H locs cl sl Qf (F0 m pc ls (st.map (gv ad)))) (k : Go M R E (pc', lv, st', w)) : Go M R E (pc, lv, st, w) :=
  Go.stk (fun p l e s m args below meth c ad cl sl Qf H locs ls X _ kk => hstep p l e s m args below meth c ad cl sl Qf H locs ls X kk) k
set_option maxHeartbeats 4000000 in
theorem g2_sound {I : gI} (hI : gIok M.1.cls I) {ins : Instr} {y : gS} {cs : List Prop} (h : g2 I M.2.2.1 ins pc lv st w = some (y, cs)) (hd : decode M.2.1 pc = .ok (ins, glen ins)) (hc : gAll cs) (k : Go M R E y) : Go M R E (pc, lv, st, w) := by
  cases ins
  case iconst n =>
    cases h
    exact gx_topstk (fun p l e s m args below meth c ad cl sl Qf H locs ls X kk => lv_iconst X.1 X.2.1 hd rfl kk) k
  case bipush n =>
    cases h
    exact gx_topstk (fun p l e s m args below meth c ad cl sl Qf H locs ls X kk => lv_bipush X.1 X.2.1 hd rfl kk) k
  case sipush n =>
    cases h
    exact gx_topstk (fun p l e s m args below meth c ad cl sl Qf H locs ls X kk => lv_sipush X.1 X.2.1 hd rfl kk) k
  case lconst n =>
    cases h
    exact gx_topstk (fun p l e s m args below meth c ad cl sl Qf H locs ls X kk => lv_lconst X.1 X.2.1 hd rfl kk) k
  case aconst_null =>
    cases h
    exact gx_topstk (fun p l e s m args below meth c ad cl sl Qf H locs ls X kk => lv_null X.1 X.2.1 hd kk) k
  case ldc i =>
    simp only [g2] at h
    split at h
    · rename_i v hv
      cases h
      exact gx_topstk (fun p l e s m args below meth c ad cl sl Qf H locs ls X kk => lv_ldc X.1 X.2.1 X.2.2.2.2.1 (X.2.2.2.2.2.1 _ (hI.2.1 _ (gck_mem hv))) hd kk) k
    · cases h
  case ldc_w i =>
    simp only [g2] at h
    split at h
    · rename_i v hv
      cases h
      exact gx_topstk (fun p l e s m args below meth c ad cl sl Qf H locs ls X kk => lv_ldcw X.1 X.2.1 X.2.2.2.2.1 (X.2.2.2.2.2.1 _ (hI.2.1 _ (gck_mem hv))) hd kk) k
    · cases h
  case ldc2_w i =>
    simp only [g2] at h
    split at h
    · rename_i v hv
      cases h
      exact gx_topstk (fun p l e s m args below meth c ad cl sl Qf H locs ls X kk => lv_ldc2 X.1 X.2.1 X.2.2.2.2.1 (X.2.2.2.2.2.1 _ (hI.2.2 _ (gck_mem hv))) hd kk) k
    · cases h
  case iload i =>
    simp only [g2] at h
    split at h
    · rename_i v hv
      cases h
      exact gx_load (Or.inl ⟨rfl, rfl⟩) hv ⟨_, rfl⟩ hd k
    · cases h
  case iload_n i =>
    simp only [g2] at h
    split at h
    · rename_i v hv
      cases h
      exact gx_load (Or.inr (Or.inr (Or.inr ⟨i, rfl, rfl, Or.inl rfl⟩))) hv ⟨_, rfl⟩ hd k
    · cases h
  case lload i =>
    simp only [g2] at h
    split at h
    · rename_i v hv
      cases h
      exact gx_load (Or.inr (Or.inr (Or.inl ⟨rfl, rfl⟩))) hv ⟨_, rfl⟩ hd k
    · cases h
  case lload_n i =>
    simp only [g2] at h
    split at h
    · rename_i v hv
      cases h
      exact gx_load (Or.inr (Or.inr (Or.inr ⟨i, rfl, rfl, Or.inr (Or.inr rfl)⟩))) hv ⟨_, rfl⟩ hd k
    · cases h
  case aload i =>
    simp only [g2] at h
    split at h
    · rename_i v hv
      cases h
      exact gx_load (Or.inr (Or.inl ⟨rfl, rfl⟩)) hv (Or.inr ⟨_, rfl⟩) hd k
    · rename_i hv
      cases h
      exact gx_load (Or.inr (Or.inl ⟨rfl, rfl⟩)) hv (Or.inl rfl) hd k
    · cases h
  case aload_n i =>
    simp only [g2] at h
    split at h
    · rename_i v hv
      cases h
      exact gx_load (Or.inr (Or.inr (Or.inr ⟨i, rfl, rfl, Or.inr (Or.inl rfl)⟩))) hv (Or.inr ⟨_, rfl⟩) hd k
    · rename_i hv
      cases h
      exact gx_load (Or.inr (Or.inr (Or.inr ⟨i, rfl, rfl, Or.inr (Or.inl rfl)⟩))) hv (Or.inl rfl) hd k
    · cases h
  case istore i =>
    simp only [g2] at h
    split at h
    · by_cases hb : Nat.blt i M.2.2.1 = true
      · rw [hb] at h
        cases h
        exact gx_istore (Or.inl ⟨rfl, rfl⟩) (Nat.blt_eq.mp hb) hd k
      · rw [Bool.eq_false_iff.mpr hb] at h
        cases h
    · cases h
  case istore_n i =>
    simp only [g2] at h
    split at h
    · by_cases hb : Nat.blt (i : Nat) M.2.2.1 = true
      · rw [hb] at h
        cases h
        exact gx_istore (Or.inr ⟨i, rfl, rfl, rfl⟩) (Nat.blt_eq.mp hb) hd k
      · rw [Bool.eq_false_iff.mpr hb] at h
        cases h
    · cases h
  case lstore i =>
    simp only [g2] at h
    split at h
    · by_cases hb : Nat.blt (i + 1) M.2.2.1 = true
      · rw [hb] at h
        cases h
        exact gx_lstore (Or.inl ⟨rfl, rfl⟩) (Nat.blt_eq.mp hb) hd k
      · rw [Bool.eq_false_iff.mpr hb] at h
        cases h
    · cases h
  case lstore_n i =>
    simp only [g2] at h
    split at h
    · by_cases hb : Nat.blt ((i : Nat) + 1) M.2.2.1 = true
      · rw [hb] at h
        cases h
        exact gx_lstore (Or.inr ⟨i, rfl, rfl, rfl⟩) (Nat.blt_eq.mp hb) hd k
      · rw [Bool.eq_false_iff.mpr hb] at h
        cases h
    · cases h
  case astore i =>
    simp only [g2] at h
    split at h
    · by_cases hb : Nat.blt i M.2.2.1 = true
      · rw [hb] at h
        cases h
        exact gx_astore (Or.inl ⟨rfl, rfl⟩) (Or.inr ⟨_, rfl⟩) (Nat.blt_eq.mp hb) hd k
      · rw [Bool.eq_false_iff.mpr hb] at h
        cases h
    · by_cases hb : Nat.blt i M.2.2.1 = true
      · rw [hb] at h
        cases h
        exact gx_astore (Or.inl ⟨rfl, rfl⟩) (Or.inl rfl) (Nat.blt_eq.mp hb) hd k
      · rw [Bool.eq_false_iff.mpr hb] at h
        cases h
    · cases h
  case astore_n i =>
    simp only [g2] at h
    split at h
    · by_cases hb : Nat.blt (i : Nat) M.2.2.1 = true
      · rw [hb] at h
        cases h
        exact gx_astore (Or.inr ⟨i, rfl, rfl, rfl⟩) (Or.inr ⟨_, rfl⟩) (Nat.blt_eq.mp hb) hd k
      · rw [Bool.eq_false_iff.mpr hb] at h
        cases h
    · by_cases hb : Nat.blt (i : Nat) M.2.2.1 = true
      · rw [hb] at h
        cases h
        exact gx_astore (Or.inr ⟨i, rfl, rfl, rfl⟩) (Or.inl rfl) (Nat.blt_eq.mp hb) hd k
      · rw [Bool.eq_false_iff.mpr hb] at h
        cases h
    · cases h
  case iinc i n =>
    simp only [g2] at h
    split at h
    · rename_i v hv
      by_cases hb : Nat.blt i M.2.2.1 = true
      · rw [hb] at h
        cases h
        exact gx_iinc hv (Nat.blt_eq.mp hb) hd k
      · rw [Bool.eq_false_iff.mpr hb] at h
        cases h
    · cases h
  case i2l =>
    simp only [g2] at h
    split at h
    · cases h
      exact gx_topstk (fun p l e s m args below meth c ad cl sl Qf H locs ls X kk => lv_i2l X.1 X.2.1 hd rfl kk) k
    · cases h
  case l2i =>
    simp only [g2] at h
    split at h
    · cases h
      exact gx_topstk (fun p l e s m args below meth c ad cl sl Qf H locs ls X kk => lv_l2i X.1 X.2.1 hd rfl kk) k
    · cases h
  case i2s =>
    simp only [g2] at h
    split at h
    · cases h
      exact gx_topstk (fun p l e s m args below meth c ad cl sl Qf H locs ls X kk => lv_i2s X.1 X.2.1 hd rfl kk) k
    · cases h
  case ineg =>
    simp only [g2] at h
    split at h
    · cases h
      exact gx_topstk (fun p l e s m args below meth c ad cl sl Qf H locs ls X kk => lv_ineg X.1 X.2.1 hd kk) k
    · cases h
  case lcmp =>
    simp only [g2] at h
    split at h
    · cases h
      exact gx_topstk (fun p l e s m args below meth c ad cl sl Qf H locs ls X kk => W.lcmp X.1 X.2.1 hd kk) k
    · cases h
  case idiv =>
    simp only [g2] at h
    split at h
    · cases h
      exact gx_topstk (fun p l e s m args below meth c ad cl sl Qf H locs ls X kk => lv_idiv X.1 X.2.1 hd hc.1 kk) k
    · cases h
  case irem =>
    simp only [g2] at h
    split at h
    · cases h
      exact gx_topstk (fun p l e s m args below meth c ad cl sl Qf H locs ls X kk => lv_irem X.1 X.2.1 hd hc.1 kk) k
    · cases h
  case dup =>
    simp only [g2] at h
    split at h
    · cases h
      exact gx_topstk (fun p l e s m args below meth c ad cl sl Qf H locs ls X kk => lv_dup X.1 X.2.1 hd rfl kk) k
    · cases h
      exact gx_topstk (fun p l e s m args below meth c ad cl sl Qf H locs ls X kk => lv_dup X.1 X.2.1 hd rfl kk) k
    · cases h
  case dup2 =>
    simp only [g2] at h
    split at h
    · cases h
      exact gx_topstk (fun p l e s m args below meth c ad cl sl Qf H locs ls X kk => lv_dup2_11 X.1 X.2.1 hd rfl rfl kk) k
    · cases h
  case pop =>
    simp only [g2] at h
    split at h
    · cases h
      exact gx_topstk (fun p l e s m args below meth c ad cl sl Qf H locs ls X kk => lv_pop X.1 X.2.1 hd rfl kk) k
    · cases h
  case getfield i =>
    simp only [g2] at h
    split at h
    · split at h
      · rename_i h1
        split at h
        · rename_i h2
          split at h
          · rename_i h3
            cases h
            exact gx_get hI h1 h2 h3 hd k
          · cases h
        · cases h
      · cases h
    · cases h
  case putfield i =>
    simp only [g2] at h
    split at h
    · split at h
      · rename_i h1
        split at h
        · rename_i h2
          revert h
          generalize hb : ((_ : Bool) && _) = b0
          intro h
          cases b0
          · cases h
          · cases h
            obtain ⟨b1, b2⟩ := Bool.and_eq_true_iff.mp hb
            exact gx_put hI h1 h2 b1 (Nat.blt_eq.mp b2) hd k
        · cases h
      · cases h
    · cases h
  case iaload =>
    simp only [g2] at h
    split at h
    · split at h
      · rename_i h1
        cases h
        exact gx_iald h1 hc.1 hd k
      · cases h
    · cases h
  case laload =>
    simp only [g2] at h
    split at h
    · split at h
      · rename_i h1
        cases h
        exact gx_lald h1 hc.1 hd k
      · cases h
    · cases h
  case aaload =>
    simp only [g2] at h
    split at h
    · split at h
      · rename_i h1
        cases h
        exact gx_aald h1 hc.1 hd k
      · cases h
    · cases h
  case iastore =>
    simp only [g2] at h
    split at h
    · split at h
      · rename_i h1
        cases h
        exact gx_iast h1 hc.1 hd k
      · cases h
    · cases h
  case lastore =>
    simp only [g2] at h
    split at h
    · split at h
      · rename_i h1
        cases h
        exact gx_last h1 hc.1 hd k
      · cases h
    · cases h
  case arraylength =>
    simp only [g2] at h
    split at h
    · split at h
      · rename_i t z g h1
        by_cases hb : Nat.blt t 3 = true
        · rw [hb] at h
          cases h
          exact gx_alen h1 (Nat.blt_eq.mp hb) hd k
        · rw [Bool.eq_false_iff.mpr hb] at h
          cases h
      · cases h
    · cases h
  case goto off =>
    simp only [g2] at h
    split at h
    · rename_i t ht
      cases h
      exact gx_topstk (fun p l e s m args below meth c ad cl sl Qf H locs ls X kk => lv_goto X.1 X.2.1 hd ht kk) k
    · cases h
  all_goals
    first
      | (simp only [g2, gbin, glbin, glsh] at h; cases h; done)
      | (simp only [g2, gbin, glbin, glsh] at h
         split at h
         · cases h
           first
             | exact gx_bin rfl hd k
             | exact gx_lbin rfl hd k
             | exact gx_lsh rfl hd k
         · cases h)
end RunRules
end
section
/-! Stretches, branches, ends, contracts, calls. -/
def prun (I : gI) (nL : Nat) : List (Nat × Instr) → gS → Option (gS × List Prop)
  | [], x => some (x, [])
  | b :: B, x => bif x.1 == b.1 then (match g2 I nL b.2 x.1 x.2.1 x.2.2.1 x.2.2.2 with
    | none => none
    | some (y, cs) => match prun I nL B y with
      | none => none
      | some (z, ds) => some (z, cs ++ ds)) else none
def gDec (cc : ByteArray) (B : List (Nat × Instr)) : Prop := ∀ b ∈ B, decode cc b.1 = .ok (b.2, glen b.2)
theorem gAll_app : ∀ {a b : List Prop}, gAll (a ++ b) → gAll a ∧ gAll b
  | [], _, h => ⟨trivial, h⟩
  | _ :: _, _, h => ⟨⟨h.1, (gAll_app h.2).1⟩, (gAll_app h.2).2⟩
section Flow
variable {M : gM} {R : Room} {E : gS → Prop} {pc : Nat} {lv : List (Nat × Value)} {st : List Value} {w : gW}
theorem prun_sound {I : gI} (hI : gIok M.1.cls I) : ∀ (B : List (Nat × Instr)) {x y : gS} {cs : List Prop}, gDec M.2.1 B → prun I M.2.2.1 B x = some (y, cs) → gAll cs → Go M R E y → Go M R E x
  | [], x, y, cs, _, h, _, k => by
    cases h
    exact k
  | b :: B, x, y, cs, hd, h, hc, k => by
    unfold prun at h
    by_cases hb : x.1 = b.1
    · have hb2 : (x.1 == b.1) = true := by simpa using hb
      rw [hb2] at h
      simp only [cond_true] at h
      split at h
      · cases h
      · rename_i y1 cs1 h1
        split at h
        · cases h
        · rename_i z ds h2
          cases h
          obtain ⟨c1, c2⟩ := gAll_app hc
          obtain ⟨pc, lv, st, w⟩ := x
          refine g2_sound hI h1 ?_ c1 (prun_sound hI B (fun b hb => hd b (List.mem_cons_of_mem _ hb)) h2 c2 k)
          have h3 := hd b List.mem_cons_self
          have hb : pc = b.1 := hb
          rw [hb]
          exact h3
    · have hb2 : (x.1 == b.1) = false := by simpa using hb
      rw [hb2] at h
      cases h
/-- a stretch of n instructions from the i-th on -/
theorem Go.run {I : gI} {L : List (Nat × Instr)} (hd : gDec M.2.1 L) (hI : gIok M.1.cls I) (i n : Nat) {x : gS} (y : gS) (cs : List Prop) (h : prun I M.2.2.1 ((L.drop i).take n) x = some (y, cs)) (hc : gAll cs) (k : Go M R E y) : Go M R E x :=
  prun_sound hI _ (fun b hb => hd b (List.mem_of_mem_drop (List.mem_of_mem_take hb))) h hc k
/-- the decoded instruction at the i-th place -/
theorem gDec.at {cc : ByteArray} {L : List (Nat × Instr)} (hd : gDec cc L) (i : Nat) {b : Nat × Instr} (h : L[i]? = some b) : decode cc b.1 = .ok (b.2, glen b.2) := hd b (List.mem_of_getElem? h)
theorem gx_br {P : Prop} [Decidable P] {tgt pc' : Nat} {st' : List Value} (hstep : ∀ (p : Program) (l : Launch) (e : Env) (s : State) (m : MethodId) (args : Array Value) (below : List Frame) (meth : Method) (c : Code) (ad : Nat → Nat) (cl sl : Nat) (Qf : State → Prop) (H : Heap) (locs : List Loc) (ls : Array Slot), gX M p s m args meth c → (P → W p l e R s m args below meth c H locs cl sl Qf (F0 m tgt ls (st'.map (gv ad)))) → (¬ P → W p l e R s m args below meth c H locs cl sl Qf (F0 m pc' ls (st'.map (gv ad)))) → W p l e R s m args below meth c H locs cl sl Qf (F0 m pc ls (st.map (gv ad)))) (kt : P → Go M R E (tgt, lv, st', w)) (kf : ¬ P → Go M R E (pc', lv, st', w)) : Go M R E (pc, lv, st, w) := by
  intro p l e s m args below meth c D ad cA A H0 cl sl Qf X hc hs hA kE H locs ls hI
  exact hstep p l e s m args below meth c ad cl sl Qf H locs ls X (fun h => kt h p l e s m args below meth c D ad cA A H0 cl sl Qf X hc hs hA kE H locs ls hI) (fun h => kf h p l e s m args below meth c D ad cA A H0 cl sl Qf X hc hs hA kE H locs ls hI)
theorem Go.if_eq {x : Int32} {off : Int} (tgt : Nat) (hd : decode M.2.1 pc = .ok (.ifCond .eq off, 3)) (ht : (pc : Int) + off = (tgt : Int)) (kt : x = 0 → Go M R E (tgt, lv, st, w)) (kf : ¬ x = 0 → Go M R E (pc + 3, lv, st, w)) : Go M R E (pc, lv, .int x :: st, w) :=
  gx_br (fun p l e s m args below meth c ad cl sl Qf H locs ls X a b => lv_if_eq X.1 X.2.1 hd ht a b) kt kf
theorem Go.if_ne {x : Int32} {off : Int} (tgt : Nat) (hd : decode M.2.1 pc = .ok (.ifCond .ne off, 3)) (ht : (pc : Int) + off = (tgt : Int)) (kt : ¬ x = 0 → Go M R E (tgt, lv, st, w)) (kf : x = 0 → Go M R E (pc + 3, lv, st, w)) : Go M R E (pc, lv, .int x :: st, w) :=
  gx_br (P := x = 0) (fun p l e s m args below meth c ad cl sl Qf H locs ls X a b => lv_if_ne X.1 X.2.1 hd ht b a) kf kt
theorem Go.if_lt {x : Int32} {off : Int} (tgt : Nat) (hd : decode M.2.1 pc = .ok (.ifCond .lt off, 3)) (ht : (pc : Int) + off = (tgt : Int)) (kt : x < 0 → Go M R E (tgt, lv, st, w)) (kf : ¬ x < 0 → Go M R E (pc + 3, lv, st, w)) : Go M R E (pc, lv, .int x :: st, w) :=
  gx_br (fun p l e s m args below meth c ad cl sl Qf H locs ls X a b => lv_if_lt X.1 X.2.1 hd ht a b) kt kf
theorem Go.if_ge {x : Int32} {off : Int} (tgt : Nat) (hd : decode M.2.1 pc = .ok (.ifCond .ge off, 3)) (ht : (pc : Int) + off = (tgt : Int)) (kt : 0 ≤ x → Go M R E (tgt, lv, st, w)) (kf : ¬ 0 ≤ x → Go M R E (pc + 3, lv, st, w)) : Go M R E (pc, lv, .int x :: st, w) :=
  gx_br (fun p l e s m args below meth c ad cl sl Qf H locs ls X a b => lv_if_ge X.1 X.2.1 hd ht a b) kt kf
theorem Go.if_gt {x : Int32} {off : Int} (tgt : Nat) (hd : decode M.2.1 pc = .ok (.ifCond .gt off, 3)) (ht : (pc : Int) + off = (tgt : Int)) (kt : 0 < x → Go M R E (tgt, lv, st, w)) (kf : ¬ 0 < x → Go M R E (pc + 3, lv, st, w)) : Go M R E (pc, lv, .int x :: st, w) :=
  gx_br (fun p l e s m args below meth c ad cl sl Qf H locs ls X a b => lv_if_gt X.1 X.2.1 hd ht a b) kt kf
theorem Go.if_le {x : Int32} {off : Int} (tgt : Nat) (hd : decode M.2.1 pc = .ok (.ifCond .le off, 3)) (ht : (pc : Int) + off = (tgt : Int)) (kt : x ≤ 0 → Go M R E (tgt, lv, st, w)) (kf : ¬ x ≤ 0 → Go M R E (pc + 3, lv, st, w)) : Go M R E (pc, lv, .int x :: st, w) :=
  gx_br (fun p l e s m args below meth c ad cl sl Qf H locs ls X a b => lv_if_le X.1 X.2.1 hd ht a b) kt kf
theorem Go.icmp_eq {x y : Int32} {off : Int} (tgt : Nat) (hd : decode M.2.1 pc = .ok (.if_icmp .eq off, 3)) (ht : (pc : Int) + off = (tgt : Int)) (kt : x = y → Go M R E (tgt, lv, st, w)) (kf : ¬ x = y → Go M R E (pc + 3, lv, st, w)) : Go M R E (pc, lv, .int y :: .int x :: st, w) :=
  gx_br (fun p l e s m args below meth c ad cl sl Qf H locs ls X a b => lv_icmp_eq X.1 X.2.1 hd ht a b) kt kf
theorem Go.icmp_ne {x y : Int32} {off : Int} (tgt : Nat) (hd : decode M.2.1 pc = .ok (.if_icmp .ne off, 3)) (ht : (pc : Int) + off = (tgt : Int)) (kt : ¬ x = y → Go M R E (tgt, lv, st, w)) (kf : x = y → Go M R E (pc + 3, lv, st, w)) : Go M R E (pc, lv, .int y :: .int x :: st, w) :=
  gx_br (P := x = y) (fun p l e s m args below meth c ad cl sl Qf H locs ls X a b => lv_icmp_ne X.1 X.2.1 hd ht b a) kf kt
theorem Go.icmp_lt {x y : Int32} {off : Int} (tgt : Nat) (hd : decode M.2.1 pc = .ok (.if_icmp .lt off, 3)) (ht : (pc : Int) + off = (tgt : Int)) (kt : x < y → Go M R E (tgt, lv, st, w)) (kf : ¬ x < y → Go M R E (pc + 3, lv, st, w)) : Go M R E (pc, lv, .int y :: .int x :: st, w) :=
  gx_br (fun p l e s m args below meth c ad cl sl Qf H locs ls X a b => lv_icmp_lt X.1 X.2.1 hd ht a b) kt kf
theorem Go.icmp_ge {x y : Int32} {off : Int} (tgt : Nat) (hd : decode M.2.1 pc = .ok (.if_icmp .ge off, 3)) (ht : (pc : Int) + off = (tgt : Int)) (kt : y ≤ x → Go M R E (tgt, lv, st, w)) (kf : ¬ y ≤ x → Go M R E (pc + 3, lv, st, w)) : Go M R E (pc, lv, .int y :: .int x :: st, w) :=
  gx_br (fun p l e s m args below meth c ad cl sl Qf H locs ls X a b => lv_icmp_ge X.1 X.2.1 hd ht a b) kt kf
theorem Go.icmp_gt {x y : Int32} {off : Int} (tgt : Nat) (hd : decode M.2.1 pc = .ok (.if_icmp .gt off, 3)) (ht : (pc : Int) + off = (tgt : Int)) (kt : y < x → Go M R E (tgt, lv, st, w)) (kf : ¬ y < x → Go M R E (pc + 3, lv, st, w)) : Go M R E (pc, lv, .int y :: .int x :: st, w) :=
  gx_br (fun p l e s m args below meth c ad cl sl Qf H locs ls X a b => lv_icmp_gt X.1 X.2.1 hd ht a b) kt kf
theorem Go.icmp_le {x y : Int32} {off : Int} (tgt : Nat) (hd : decode M.2.1 pc = .ok (.if_icmp .le off, 3)) (ht : (pc : Int) + off = (tgt : Int)) (kt : x ≤ y → Go M R E (tgt, lv, st, w)) (kf : ¬ x ≤ y → Go M R E (pc + 3, lv, st, w)) : Go M R E (pc, lv, .int y :: .int x :: st, w) :=
  gx_br (fun p l e s m args below meth c ad cl sl Qf H locs ls X a b => lv_icmp_le X.1 X.2.1 hd ht a b) kt kf
theorem Go.ifnull_y {off : Int} (tgt : Nat) (hd : decode M.2.1 pc = .ok (.ifnull off, 3)) (ht : (pc : Int) + off = (tgt : Int)) (k : Go M R E (tgt, lv, st, w)) : Go M R E (pc, lv, .null :: st, w) :=
  gx_topstk (fun p l e s m args below meth c ad cl sl Qf H locs ls X kk => lv_ifnullN X.1 X.2.1 hd ht kk) k
theorem Go.ifnull_n {off : Int} {a : Nat} (hd : decode M.2.1 pc = .ok (.ifnull off, 3)) (k : Go M R E (pc + 3, lv, st, w)) : Go M R E (pc, lv, .ref a :: st, w) :=
  gx_topstk (fun p l e s m args below meth c ad cl sl Qf H locs ls X kk => lv_ifnull X.1 X.2.1 hd kk) k
theorem Go.ifnonnull_n {off : Int} (hd : decode M.2.1 pc = .ok (.ifnonnull off, 3)) (k : Go M R E (pc + 3, lv, st, w)) : Go M R E (pc, lv, .null :: st, w) :=
  gx_topstk (fun p l e s m args below meth c ad cl sl Qf H locs ls X kk => lv_ifnonnullN X.1 X.2.1 hd kk) k
theorem Go.ifnonnull_y {off : Int} {a : Nat} (tgt : Nat) (hd : decode M.2.1 pc = .ok (.ifnonnull off, 3)) (ht : (pc : Int) + off = (tgt : Int)) (k : Go M R E (tgt, lv, st, w)) : Go M R E (pc, lv, .ref a :: st, w) :=
  gx_topstk (fun p l e s m args below meth c ad cl sl Qf H locs ls X kk => lv_ifnonnull X.1 X.2.1 hd ht kk) k
/-- a table switch: the row of targets by the number, or the default -/
theorem Go.tsw {x : Int32} {dflt lo hi : Int} {offs : Array Int} {len : Nat} (hd : decode M.2.1 pc = .ok (.tableswitch dflt lo hi offs, len)) (td : Nat) (htd : (pc : Int) + dflt = (td : Int)) (ts : List Nat) (hts : ∀ j : Nat, j < (hi - lo + 1).toNat → ∃ off t, offs[j]? = some off ∧ ts[j]? = some t ∧ (pc : Int) + off = (t : Int))
    (ko : (x.toInt < lo ∨ hi < x.toInt) → Go M R E (td, lv, st, w)) (ki : ∀ (j t : Nat), ts[j]? = some t → x.toInt = lo + j → j < (hi - lo + 1).toNat → Go M R E (t, lv, st, w)) : Go M R E (pc, lv, .int x :: st, w) := by
  by_cases h : x.toInt < lo ∨ hi < x.toInt
  · exact gx_topstk (fun p l e s m args below meth c ad cl sl Qf H locs ls X kk => lv_tableOut X.1 X.2.1 hd h htd kk) (ko h)
  · have h1 : ¬ x.toInt < lo := fun q => h (Or.inl q)
    have h2 : ¬ hi < x.toInt := fun q => h (Or.inr q)
    obtain ⟨off, t, o1, o2, o3⟩ := hts (x.toInt - lo).toNat (by omega)
    exact gx_topstk (fun p l e s m args below meth c ad cl sl Qf H locs ls X kk => lv_tableIn X.1 X.2.1 hd h1 h2 o1 o3 kk) (ki (x.toInt - lo).toNat t o2 (by omega) (by omega))
end Flow
/-- the outcome of a method: what it answers, and the world behind it -/
def gQ (D : va_G) (ad : Nat → Nat) (cA : Nat → ClassId) (A : Nat → Prop) (Q : Option Value → gW → Prop) : Array Value → State → Outcome → State → Prop := fun _ s o t =>
  (∃ (r : Option Value) (w : gW), o = .returned (r.map (gv ad)) ∧ Q r w ∧ va_P D vwCl (gw ad cA w) t.heap ∧ va_K D vwCl (gT cA) t ∧ va_D A (gw ad cA w)) ∧ va_F A s t
/-- a method's contract: on this world, with these arguments, an answer and a world of Q -/
def Ct (M : gM) (R : Room) (av : List Value) (w : gW) (Q : Option Value → gW → Prop) : Prop :=
  ∀ (l : Launch) (D : va_G) (ad : Nat → Nat) (cA : Nat → ClassId) (sz : Nat), Met l M.1 (gws M) R (va_Pc (av.map (gv ad)) (fun U => U.heap.size = sz ∧ va_P D vwCl (gw ad cA w) U.heap ∧ va_K D vwCl (gT cA) U ∧ va_D (fun _ => True) (gw ad cA w) ∧ gN U)) (gQ D ad cA (va_A (gw ad cA w) sz) Q) 0 0 (va_A (gw ad cA w) sz)
/-- a state at a return instruction, with an answer of Q -/
def gRet (M : gM) (Q : Option Value → gW → Prop) (x : gS) : Prop := match M.2.2.2, x.2.2.1 with
  | none, [] => decode M.2.1 x.1 = .ok (.return_, 1) ∧ Q none x.2.2.2
  | some .int, [.int v] => decode M.2.1 x.1 = .ok (.ireturn, 1) ∧ Q (some (.int v)) x.2.2.2
  | some .boolean, [.int v] => decode M.2.1 x.1 = .ok (.ireturn, 1) ∧ v &&& 1 = v ∧ Q (some (.int v)) x.2.2.2
  | some .long, [.long v] => decode M.2.1 x.1 = .ok (.lreturn, 1) ∧ Q (some (.long v)) x.2.2.2
  | some (.object _), [.ref a] => decode M.2.1 x.1 = .ok (.areturn, 1) ∧ Q (some (.ref a)) x.2.2.2
  | some (.object _), [.null] => decode M.2.1 x.1 = .ok (.areturn, 1) ∧ Q (some .null) x.2.2.2
  | _, _ => False
theorem gl_args (ad : Nat → Nat) : ∀ (vs : List Value) (i : Nat), lv_args i (vs.map (gv ad)) = (lv_args i vs).map (gl ad)
  | [], _ => rfl
  | v :: vs, i => by
    simp only [List.map, lv_args, gv_cat, gl_args ad vs]
    rfl
theorem gl_slots (ad : Nat → Nat) : ∀ (vs : List Value), (lg_sl (vs.map (gv ad))).length = (lg_sl vs).length
  | [] => rfl
  | v :: vs => by
    have ih := gl_slots ad vs
    simp only [lg_sl, List.map, List.flatMap_cons, List.length_append] at ih ⊢
    rw [ih, gv_cat]
    by_cases h : v.category = 2
    · simp [h]
    · simp [h]
theorem Ct.of {M : gM} {R : Room} {av : List Value} {w : gW} {Q : Option Value → gW → Prop} (hy : plainName M.1.cls = true) (hn : (lg_sl av).length ≤ M.2.2.1) (h : Go M R (gRet M Q) (0, lv_args 0 av, [], w)) : Ct M R av w Q := by
  intro l D ad cA sz
  refine Met.ofW (cc := M.2.1) (maxL := M.2.2.1) (ret := M.2.2.2) hy rfl ?_
  intro p e s m args below meth c s₁ B hml hv
  obtain ⟨rfl, hsz, hP, hK, hD0, hN⟩ := hv
  have hts := atoms_spec (ws := gws M) B.pre
  have hown : s.vm.findClass M.1.cls = some m.cls := findClass_of_methodNamed B.named
  have hlocks := B.notSynchronized
  subst hsz
  have hD := hD0.self (sz := s.heap.size)
  generalize hAe : va_A (gw ad cA w) s.heap.size = A at hD ⊢
  have hA : ∀ q : Nat, s.heap.size ≤ q → A q := fun q h => by rw [← hAe]; exact Or.inr h
  have hl := lv_entry (av.map (gv ad)) (n := M.2.2.1) (by rw [gl_slots]; exact hn)
  rw [lg_entry_eq]
  generalize (lg_sl (av.map (gv ad)) ++ List.replicate (M.2.2.1 - (lg_sl (av.map (gv ad))).length) Slot.unset).toArray = ls at hl ⊢
  rw [gl_args] at hl
  have X : gX M p s m (av.map (gv ad)).toArray meth c := ⟨B.exec, B.bytes, B.returns, hml, hown, fun w hw => hts w (List.mem_cons_of_mem _ hw), hlocks, hN⟩
  refine h p l e s m _ below meth c D ad cA A s.heap 0 0 _ X (Nat.zero_le _) (Nat.zero_le _) hA ?_ s.heap [] ls ⟨hK, hP, hD, va_S.rf, hl⟩
  intro y H locs ls hE hI
  obtain ⟨pc, lv, st, w2⟩ := y
  have hfin : ∀ (r : Option Value), Q r w2 → ∀ t : State, t.heap = H → s.WarmedH t.vm → gQ D ad cA A Q (av.map (gv ad)).toArray s (.returned (r.map (gv ad))) t := by
    intro r hr t ht hW
    refine ⟨⟨r, w2, rfl, hr, ?_, va_K.moved hW.alike hI.1, hI.2.2.1⟩, hI.2.2.2.1.F ht⟩
    rw [ht]
    exact hI.2.1
  unfold gRet at hE
  split at hE
  · rename_i h1 h2
    have h2 : st = [] := h2
    subst h2
    exact W.vret X.1 X.2.1 (X.2.2.1.trans h1) (hfin none hE.2) hI.2.2.2.1.2.2 hE.1
  · rename_i v h1 h2
    have h2 : st = [.int v] := h2
    subst h2
    exact W.iret X.1 X.2.1 (X.2.2.1.trans h1) (hfin (some (.int v)) hE.2) hI.2.2.2.1.2.2 hE.1
  · rename_i v h1 h2
    have h2 : st = [.int v] := h2
    subst h2
    exact W.zret X.1 X.2.1 (X.2.2.1.trans h1) (by show Value.int (v &&& 1) = _; rw [hE.2.1]) (hfin (some (.int v)) hE.2.2) hI.2.2.2.1.2.2 hE.1
  · rename_i v h1 h2
    have h2 : st = [.long v] := h2
    subst h2
    exact W.lret X.1 X.2.1 (X.2.2.1.trans h1) (hfin (some (.long v)) hE.2) hI.2.2.2.1.2.2 hE.1
  · rename_i n a h1 h2
    have h2 : st = [.ref a] := h2
    subst h2
    exact W.aret X.1 X.2.1 (X.2.2.1.trans h1) (Or.inl ⟨_, rfl⟩) (Or.inr ⟨_, rfl⟩) (hfin (some (.ref a)) hE.2) hI.2.2.2.1.2.2 hE.1
  · rename_i n h1 h2
    have h2 : st = [.null] := h2
    subst h2
    exact W.aret X.1 X.2.1 (X.2.2.1.trans h1) (Or.inl ⟨_, rfl⟩) (Or.inl rfl) (hfin (some .null) hE.2) hI.2.2.2.1.2.2 hE.1
  · exact hE.elim
end
section
/-! Calls: the callee's cells are cut out of the caller's world by their places, under the callee's own numbers. -/
def gren (r : Nat → Nat) (q : Nat × gE) : Nat × gE := (r q.1, match q.2 with
  | .inl (t, a) => .inl (t, gA r a)
  | .inr (ci, vs) => .inr (ci, vs.map (gv r)))
theorem gv_comp (ad r : Nat → Nat) (v : Value) : gv (fun k => ad (r k)) v = gv ad (gv r v) := by
  cases v <;> rfl
theorem gA_comp (ad r : Nat → Nat) (a : vp_A) : gA (fun k => ad (r k)) a = gA ad (gA r a) := by
  obtain ⟨n, f | f | f | f | f⟩ := a <;> try rfl
  simp [gA, Function.comp_def]
theorem gq_ren (ad r : Nat → Nat) (cA : Nat → ClassId) (q : Nat × gE) : gq (fun k => ad (r k)) cA q = gq ad cA (gren r q) := by
  obtain ⟨k, ⟨t, a⟩ | ⟨ci, vs⟩⟩ := q
  · simp only [gq, gren, gC, gA_comp]
  · simp only [gq, gren, gC, List.map_map]
    congr 3
    apply List.map_congr_left
    intro v _
    exact gv_comp ad r v
theorem gw_ren (ad r : Nat → Nat) (cA : Nat → ClassId) (w : gW) : gw (fun k => ad (r k)) cA w = gw ad cA (w.map (gren r)) := by
  unfold gw
  rw [List.map_map]
  apply List.map_congr_left
  intro q _
  exact gq_ren ad r cA q
theorem gvs_comp (ad r : Nat → Nat) (vs : List Value) : vs.map (gv (fun k => ad (r k))) = (vs.map (gv r)).map (gv ad) := by
  rw [List.map_map]
  apply List.map_congr_left
  intro v _
  exact gv_comp ad r v
def gput : gW → List Nat → gW → gW
  | w, i :: is, q :: qs => gput (w.set i q) is qs
  | w, _, _ => w
theorem gput_get : ∀ (is : List Nat) (qs w : gW), is.length = qs.length → ∀ (k : Nat) (q : Nat × gE), (gput w is qs)[k]? = some q → (k ∉ is ∧ w[k]? = some q) ∨ ∃ j : Nat, is[j]? = some k ∧ qs[j]? = some q
  | [], [], w, _, k, q, h => Or.inl ⟨List.not_mem_nil, h⟩
  | i :: is, q0 :: qs, w, hl, k, q, h => by
    rcases gput_get is qs (w.set i q0) (by simpa using hl) k q h with ⟨h1, h2⟩ | ⟨j, h1, h2⟩
    · by_cases hk : i = k
      · subst hk
        have h3 : i < w.length := by
          have := (List.getElem?_eq_some_iff.mp h2).1
          simpa using this
        rw [List.getElem?_set_self h3] at h2
        exact Or.inr ⟨0, rfl, h2⟩
      · rw [List.getElem?_set_ne hk] at h2
        refine Or.inl ⟨?_, h2⟩
        intro h3
        rcases List.mem_cons.mp h3 with h3 | h3
        · exact hk h3.symm
        · exact h1 h3
    · exact Or.inr ⟨j + 1, h1, h2⟩
theorem gsub_at {w w2 : gW} {is : List Nat} {r : Nat → Nat} (hs : is.map (fun i => w[i]?) = (w2.map (gren r)).map some) {j : Nat} {q : Nat × gE} (hq : w2[j]? = some q) : ∃ i, is[j]? = some i ∧ w[i]? = some (gren r q) := by
  have h1 : (is.map (fun i => w[i]?))[j]? = some (some (gren r q)) := by
    rw [hs, List.getElem?_map, List.getElem?_map, hq]
    rfl
  rw [List.getElem?_map] at h1
  cases hi : is[j]? with
  | none => rw [hi] at h1; cases h1
  | some i => rw [hi] at h1; exact ⟨i, rfl, Option.some.inj h1⟩
theorem gsub_len {w w2 : gW} {is : List Nat} {r : Nat → Nat} (hs : is.map (fun i => w[i]?) = (w2.map (gren r)).map some) : is.length = w2.length := by
  have := congrArg List.length hs
  simpa using this
theorem gsub_conc {w w2 : gW} {is : List Nat} {r : Nat → Nat} (ad : Nat → Nat) (cA : Nat → ClassId) (hs : is.map (fun i => w[i]?) = (w2.map (gren r)).map some) : is.map (fun i => (gw ad cA w)[i]?) = (gw (fun k => ad (r k)) cA w2).map some := by
  rw [gw_ren ad r cA w2]
  have h1 : is.map (fun i => (gw ad cA w)[i]?) = (is.map (fun i => w[i]?)).map (Option.map (gq ad cA)) := by
    rw [List.map_map]
    apply List.map_congr_left
    intro i _
    simp [gw]
  rw [h1, hs]
  simp [gw]
theorem gP_join {D : va_G} {A0 : Nat → Prop} {ad r : Nat → Nat} {cA : Nat → ClassId} {w w2 w3 : gW} {is : List Nat} {H H1 : Heap} (hP : va_P D vwCl (gw ad cA w) H) (hD : va_D A0 (gw ad cA w)) (hs : is.map (fun i => w[i]?) = (w2.map (gren r)).map some) (hk3 : w3.map (fun q => q.1) = w2.map (fun q => q.1))
    (hk : ∀ q : Nat, q < H.size → ¬ va_A (gw (fun k => ad (r k)) cA w2) H.size q → H1[q]? = H[q]?) (hP1 : va_P D vwCl (gw (fun k => ad (r k)) cA w3) H1) : va_P D vwCl (gw ad cA (gput w is (w3.map (gren r)))) H1 ∧ va_D A0 (gw ad cA (gput w is (w3.map (gren r)))) := by
  have hl3 : w3.length = w2.length := by
    have := congrArg List.length hk3
    simpa using this
  have hlen : is.length = (w3.map (gren r)).length := by rw [List.length_map, hl3]; exact gsub_len hs
  -- every cell of the new world stands where a cell of the old one stood, at the same address
  have key : ∀ (k : Nat) (q : Nat × gE), (gput w is (w3.map (gren r)))[k]? = some q → (k ∉ is ∧ w[k]? = some q) ∨ ∃ (j : Nat) (q3 : Nat × gE), is[j]? = some k ∧ w3[j]? = some q3 ∧ q = gren r q3 ∧ ∃ e, w[k]? = some (q.1, e) := by
    intro k q h
    rcases gput_get is _ w hlen k q h with h1 | ⟨j, h1, h2⟩
    · exact Or.inl h1
    · rw [List.getElem?_map] at h2
      cases h3 : w3[j]? with
      | none => rw [h3] at h2; cases h2
      | some q3 =>
        rw [h3] at h2
        have e : gren r q3 = q := Option.some.inj h2
        have hj : (w2.map (fun q => q.1))[j]? = some q3.1 := by rw [← hk3, List.getElem?_map, h3]; rfl
        rw [List.getElem?_map] at hj
        cases h4 : w2[j]? with
        | none => rw [h4] at hj; cases hj
        | some q2 =>
          rw [h4] at hj
          have e2 : q2.1 = q3.1 := Option.some.inj hj
          obtain ⟨i, h5, h6⟩ := gsub_at hs h4
          rw [h1] at h5
          cases Option.some.inj h5
          refine Or.inr ⟨j, q3, h1, h3, e.symm, (gren r q2).2, ?_⟩
          rw [h6, ← e]
          show some (gren r q2) = some (r q3.1, (gren r q2).2)
          rw [← e2]
          rfl
  have keyA : ∀ (k : Nat) (q : Nat × va_E), (gw ad cA (gput w is (w3.map (gren r))))[k]? = some q → ∃ q0, (gw ad cA w)[k]? = some q0 ∧ q0.1 = q.1 := by
    intro k q h
    unfold gw at h
    rw [List.getElem?_map] at h
    cases h0 : (gput w is (w3.map (gren r)))[k]? with
    | none => rw [h0] at h; cases h
    | some q1 =>
      rw [h0] at h
      have e : gq ad cA q1 = q := Option.some.inj h
      rcases key k q1 h0 with ⟨-, h1⟩ | ⟨j, q3, -, -, -, e9, h1⟩
      · exact ⟨_, gw_at h1, by rw [← e]; rfl⟩
      · exact ⟨_, gw_at h1, by rw [← e]; rfl⟩
  refine ⟨?_, ?_⟩
  · intro k q h
    have h' := h
    unfold gw at h
    rw [List.getElem?_map] at h
    cases h0 : (gput w is (w3.map (gren r)))[k]? with
    | none => rw [h0] at h; cases h
    | some q1 =>
      rw [h0] at h
      have e : gq ad cA q1 = q := Option.some.inj h
      rcases key k q1 h0 with ⟨h2, h1⟩ | ⟨j, q3, h1, h2, h3, -⟩
      · have hat := hP k _ (gw_at (ad := ad) (cA := cA) h1)
        have eq1 : (ad q1.1, gC ad cA q1.2) = q := e
        rw [eq1] at hat
        refine hat.kept (hk q.1 hat.lt ?_)
        rintro (⟨j, e9, h9⟩ | h9)
        · have hc : (is.map (fun i => (gw ad cA w)[i]?))[j]? = some (some (q.1, e9)) := by rw [gsub_conc ad cA hs, List.getElem?_map, h9]; rfl
          rw [List.getElem?_map] at hc
          cases hi : is[j]? with
          | none => rw [hi] at hc; cases hc
          | some i =>
            rw [hi] at hc
            have h10 : (gw ad cA w)[i]? = some (q.1, e9) := Option.some.inj hc
            have h11 : (gw ad cA w)[k]? = some q := by rw [gw_at h1, ← eq1]
            have h12 := hD.1 k i q (q.1, e9) h11 h10 rfl
            subst h12
            exact h2 (List.mem_of_getElem? hi)
        · exact absurd hat.lt (Nat.not_lt.mpr h9)
      · have h4 : (gw (fun k => ad (r k)) cA w3)[j]? = some q := by
          unfold gw
          rw [List.getElem?_map, h2]
          show some (gq _ cA q3) = _
          rw [gq_ren, ← h3, e]
        exact hP1 j q h4
  · refine ⟨fun i j x y hi hj hxy => ?_, fun k q hk => ?_⟩
    · obtain ⟨x0, h1, h2⟩ := keyA i x hi
      obtain ⟨y0, h3, h4⟩ := keyA j y hj
      exact hD.1 i j x0 y0 h1 h3 (by rw [h2, h4]; exact hxy)
    · obtain ⟨q0, h1, h2⟩ := keyA k q hk
      rw [← h2]
      exact hD.2 k q0 h1
/-- a contract whose answer and world are told -/
def Cd (M : gM) (R : Room) (av : List Value) (w : gW) (r : Option Value) (w' : gW) : Prop := Ct M R av w (fun r' w2 => r' = r ∧ w2 = w')
theorem gTB_good : ∀ w ∈ gTB, (w.onTables && w.keeps) = true ∨ ∃ ty, w = .arrayClass ty := fun w h => good_of_word (List.mem_filter.mp h).2
theorem gGood {L : List Cond} (h : ∀ w ∈ L, w ∈ gTB) : GoodIn gTB L := fun w hw => ⟨h w hw, gTB_good w (h w hw)⟩
/-- how a call is linked: the words of it are in the tables -/
def gNoMH (y : MethodName) (n : Nat) : Prop := y.cls ≠ "java/lang/invoke/MethodHandle" ∧ y.cls ≠ "java/lang/invoke/VarHandle" ∧ (parseMethodDescriptor y.desc).map (fun d => d.parameters.length) = some n
def gLV (own : String) (idx : Nat) (C : String) (M : gM) (n : Nat) : Prop := Cond.methodLink own idx M.1 ∈ gTB ∧ Cond.instanceMethod M.1 ∈ gTB ∧ Cond.selects C M.1 M.1 ∈ gTB ∧ Cond.initialized C ∈ gTB ∧ Cond.code M.1 M.2.1 M.2.2.1 M.2.2.2 ∈ gTB ∧ M.1.cls = C ∧ gNoMH M.1 n
def gLU (own : String) (idx : Nat) (C : String) (x : MethodName) (M : gM) (n : Nat) : Prop := Cond.methodLink own idx x ∈ gTB ∧ Cond.sameMethod x.cls M.1.cls x.name x.desc ∈ gTB ∧ Cond.selects C x M.1 ∈ gTB ∧ Cond.instanceMethod M.1 ∈ gTB ∧ Cond.initialized M.1.cls ∈ gTB ∧ Cond.code M.1 M.2.1 M.2.2.1 M.2.2.2 ∈ gTB ∧ M.1 = ⟨M.1.cls, x.name, x.desc⟩ ∧ gNoMH M.1 n ∧ (parseMethodDescriptor x.desc).map (fun d => d.parameters.length) = some n
def gLS (own : String) (idx : Nat) (M : gM) (n : Nat) : Prop := Cond.methodLink own idx M.1 ∈ gTB ∧ Cond.static M.1 ∈ gTB ∧ Cond.initialized M.1.cls ∈ gTB ∧ Cond.code M.1 M.2.1 M.2.2.1 M.2.2.2 ∈ gTB ∧ gNoMH M.1 n
def gLN (own : String) (idx : Nat) (host : String) (M : gM) (n : Nat) : Prop := (own, idx, M.1, host) ∈ gNest ∧ Cond.static M.1 ∈ gTB ∧ Cond.initialized M.1.cls ∈ gTB ∧ Cond.code M.1 M.2.1 M.2.2.1 M.2.2.2 ∈ gTB ∧ gNoMH M.1 n
/-- the callee's room fits -/
def gRoom (R R' : Room) (nL : Nat) : Prop := R'.cells = 0 ∧ R'.slots = 0 ∧ R'.frames + 1 ≤ R.frames ∧ 8 + (nL + 11) + R'.locals ≤ R.locals
section Calls
variable {M M' : gM} {R R' : Room} {E : gS → Prop} {pc : Nat} {lv : List (Nat × Value)} {st : List Value} {w w2 w3 : gW} {av : List Value} {rr : Option Value} {idx n : Nat}
theorem gPc_blind {D : va_G} {ad : Nat → Nat} {cA : Nat → ClassId} {sz : Nat} {as : List Value} : FrameBlind (va_Pc as (fun U => U.heap.size = sz ∧ va_P D vwCl (gw ad cA w) U.heap ∧ va_K D vwCl (gT cA) U ∧ va_D (fun _ => True) (gw ad cA w) ∧ gN U)) := by
  intro a U g mk q
  obtain ⟨q0, q1, qP, qK, qD, qN⟩ := q
  refine ⟨q0, q1, qP, va_K.moved (u := U) (U := U.calling g mk a) (Vm.Alike.refl U.vm) qK, qD, fun z hz => ?_⟩
  exact va_Nw.same (u := U) (U := U.calling g mk a) rfl rfl (qN z hz)
theorem gx_call {r : Nat → Nat} {is : List Nat} (hs : is.map (fun i => w[i]?) = (w2.map (gren r)).map some) (hnd : va_nd is = true) (hk3 : w3.map (fun q => q.1) = w2.map (fun q => q.1)) (st0 : List Value)
    (hrun : ∀ (p : Program) (l : Launch) (e : Env) (s : State) (m : MethodId) (args : Array Value) (below : List Frame) (meth : Method) (c : Code) (D : va_G) (ad : Nat → Nat) (cA : Nat → ClassId) (cl sl : Nat) (H : Heap) (locs : List Loc) (ls : Array Slot), gX M p s m args meth c → cl ≤ R.cells → sl ≤ R.slots → va_K D vwCl (gT cA) s → va_P D vwCl (gw (fun k => ad (r k)) cA w2) H → va_D (fun _ => True) (gw (fun k => ad (r k)) cA w2) → ls.size = M.2.2.1 →
      ∃ a, va_Run p l e R s m args below meth c H locs cl sl 0 0 (F0 m pc ls (st0.map (gv ad))) (st.map (gv ad)) (gQ D (fun k => ad (r k)) cA (va_A (gw (fun k => ad (r k)) cA w2) H.size) (fun r' w' => r' = rr ∧ w' = w3) a) (va_A (gw (fun k => ad (r k)) cA w2) H.size))
    (k : Go M R E (pc + 3, lv, (rr.map (gv r)).toList ++ st, gput w is (w3.map (gren r)))) : Go M R E (pc, lv, st0, w) := by
  intro p l e s m args below meth c D ad cA A H0 cl sl Qf X hc hsl hA kE H locs ls hN
  obtain ⟨hK, hP, hD, hS, hl⟩ := hN
  have hconc := gsub_conc ad cA hs
  have hPc : va_P D vwCl (gw (fun k => ad (r k)) cA w2) H := by
    intro k q hq
    have h1 : (is.map (fun i => (gw ad cA w)[i]?))[k]? = some (some q) := by rw [hconc, List.getElem?_map, hq]; rfl
    rw [List.getElem?_map] at h1
    cases hi : is[k]? with
    | none => rw [hi] at h1; cases h1
    | some i => rw [hi] at h1; exact hP i q (Option.some.inj h1)
  have hDc := hD.sub is hnd hconc
  have hFc := va_free hD hS hA is hconc
  obtain ⟨a, hr⟩ := hrun p l e s m args below meth c D ad cA cl sl H locs ls X hc hsl hK hPc (hDc.weaken (fun _ _ _ _ => trivial)) hl.1
  intro T hT XT
  obtain ⟨v, st₀, t, T', L, h0, X', hL, e1, e2, ⟨⟨r1, w1, hv, ⟨q1, q2⟩, hP1, hK1, hD1⟩, hz, hk⟩, stp⟩ := hr T hT XT
  rw [q1] at hv
  rw [q2] at hP1 hD1
  cases hv
  rw [h0] at hz hk
  have hS' : va_S A H0 T'.heap (locs ++ L) := ⟨Nat.le_trans hS.1 (by rw [e1]; exact hz), fun q h1 h2 => by rw [e1, hk q (Nat.lt_of_lt_of_le h1 hS.1) (fun z => h2 (hFc q z))]; exact hS.2.1 q h1 h2, fun q hq => by
      rcases List.mem_append.mp hq with h | h
      · exact hS.2.2 q h
      · exact hFc _ (hL q h)⟩
  obtain ⟨j1, j2⟩ := gP_join (H1 := T'.heap) hP hD hs hk3 (fun q h1 h2 => by rw [e1]; exact hk q h1 h2) (by rw [e1]; exact hP1)
  obtain ⟨t2, a1, b1⟩ := k p l e s m args below meth c D ad cA A H0 cl sl Qf X hc hsl hA kE T'.heap (locs ++ L) ls ⟨hK, j1, j2, hS', hl⟩ T' rfl X'
  refine ⟨t2, stp t2 ?_, b1⟩
  have e9 : ((rr.map (gv r)).toList ++ st).map (gv ad) = (rr.map (gv (fun k => ad (r k)))).toList ++ st.map (gv ad) := by
    cases rr with
    | none => rfl
    | some u =>
      simp only [Option.map, Option.toList, List.map_append, List.map]
      rw [gv_comp ad r u]
  rw [e9] at a1
  exact a1
theorem gRoom.go {nL : Nat} (h : gRoom R R' nL) {cl sl : Nat} (hc : cl ≤ R.cells) (hs : sl ≤ R.slots) : cl + 0 ≤ R.cells ∧ sl + 0 ≤ R.slots := ⟨hc, hs⟩
theorem gst_cat (ad : Nat → Nat) (st : List Value) : ((st.map (gv ad)).map fun v => v.category) = st.map fun v => v.category := by
  rw [List.map_map]
  apply List.map_congr_left
  intro v _
  exact gv_cat ad v
/-- a static call -/
theorem Go.callS (hC : Cd M' R' av w2 rr w3) (hL : gLS M.1.cls idx M' n) (r : Nat → Nat) (is : List Nat) (hs : is.map (fun i => w[i]?) = (w2.map (gren r)).map some) (hnd : va_nd is = true) (hk3 : w3.map (fun q => q.1) = w2.map (fun q => q.1)) (hn : av.length = n) (hR : gRoom R R' M'.2.2.1) (hW : (st.map fun v => v.category).sum ≤ 8) (hd : decode M.2.1 pc = .ok (.invokestatic idx, 3)) (k : Go M R E (pc + 3, lv, (rr.map (gv r)).toList ++ st, gput w is (w3.map (gren r)))) : Go M R E (pc, lv, (av.map (gv r)).reverse ++ st, w) := by
  obtain ⟨l1, l2, l3, l4, l5⟩ := hL
  refine gx_call (rr := rr) hs hnd hk3 _ (fun p l e s m args below meth c D ad cA cl sl H locs ls X hc hsl hK hP hD hls => ?_) k
  refine ⟨_, va_runS (As := av.map (gv (fun k => ad (r k)))) (n := n) (Ts := gTB) ⟨X.1, X.2.1, X.2.2.2.1, X.2.2.2.2.1, X.2.2.2.2.2.1⟩ (hC l D (fun k => ad (r k)) cA H.size) (va_cwS n X.2.2.2.2.2.1 (gGood ?_) rfl hR.1 hR.2.1 l5 hR.2.2) ⟨gPc_blind, fun U hU hW => ⟨rfl, by rw [hU], by rw [hU]; exact hP, va_K.moved hW.alike hK, hD, fun z hz => va_Nw.warmM hW (X.2.2.2.2.2.2.2 z hz)⟩⟩ rfl (by rw [List.length_map]; exact hn) hls ?_ (lv_room (by rw [gst_cat]; exact hW)) hd ⟨hc, hsl⟩⟩
  · intro w hw
    simp only [va_wsS, gws, List.cons_append, List.nil_append, List.mem_cons] at hw
    rcases hw with rfl | rfl | rfl | rfl | hw
    · exact l1
    · exact l2
    · exact l3
    · exact l4
    · exact hw
  · show ((av.map (gv r)).reverse ++ st).map (gv ad) = _
    rw [List.map_append, List.map_reverse, ← gvs_comp]
/-- a call of a method of the receiver's own class -/
theorem Go.callV {b ci : Nat} {fs : List Value} (hC : Cd M' R' (.ref b :: av) w2 rr w3) {C : String} (hL : gLV M.1.cls idx C M' n) {T : u_T} {N : Nat} (j : Nat) (hb : w2[j]? = some (b, .inr (ci, fs))) (hci : vwCl[ci]? = some (C, T, N)) (r : Nat → Nat) (is : List Nat) (hs : is.map (fun i => w[i]?) = (w2.map (gren r)).map some) (hnd : va_nd is = true) (hk3 : w3.map (fun q => q.1) = w2.map (fun q => q.1)) (hn : av.length = n) (hR : gRoom R R' M'.2.2.1) (hW : (st.map fun v => v.category).sum ≤ 8) (hd : decode M.2.1 pc = .ok (.invokevirtual idx, 3)) (k : Go M R E (pc + 3, lv, (rr.map (gv r)).toList ++ st, gput w is (w3.map (gren r)))) : Go M R E (pc, lv, (av.map (gv r)).reverse ++ .ref (r b) :: st, w) := by
  obtain ⟨l1, l2, l3, l4, l5, l6, l7⟩ := hL
  refine gx_call (rr := rr) hs hnd hk3 _ (fun p l e s m args below meth c D ad cA cl sl H locs ls X hc hsl hK hP hD hls => ?_) k
  refine ⟨_, va_runV (As := av.map (gv (fun k => ad (r k)))) (b := ad (r b)) (n := n) (Ts := gTB) ⟨X.1, X.2.1, X.2.2.2.1, X.2.2.2.2.1, X.2.2.2.2.2.1⟩ (hC l D (fun k => ad (r k)) cA H.size) (cwV n X.2.2.2.2.2.1 (gGood ?_) rfl hR.1 hR.2.1 ⟨l6, l7⟩ hR.2.2) ⟨gPc_blind, va_recv hK hP hci (gw_at hb), fun U hU hW => ⟨rfl, by rw [hU], by rw [hU]; exact hP, va_K.moved hW.alike hK, hD, fun z hz => va_Nw.warmM hW (X.2.2.2.2.2.2.2 z hz)⟩⟩ rfl (by rw [List.length_map]; exact hn) hls ?_ (lv_room (by rw [gst_cat]; exact hW)) hd ⟨hc, hsl⟩⟩
  · intro w hw
    simp only [wsV, gws, List.cons_append, List.nil_append, List.mem_cons] at hw
    rcases hw with rfl | rfl | rfl | rfl | rfl | hw
    · exact l1
    · exact l2
    · exact l3
    · exact l4
    · exact l5
    · exact hw
  · show ((av.map (gv r)).reverse ++ .ref (r b) :: st).map (gv ad) = _
    rw [List.map_append, List.map_reverse, ← gvs_comp]
    rfl
/-- a call of a method that the receiver's class has from above -/
theorem Go.callU {b ci : Nat} {fs : List Value} (hC : Cd M' R' (.ref b :: av) w2 rr w3) {C : String} {x : MethodName} (hL : gLU M.1.cls idx C x M' n) {T : u_T} {N : Nat} (j : Nat) (hb : w2[j]? = some (b, .inr (ci, fs))) (hci : vwCl[ci]? = some (C, T, N)) (r : Nat → Nat) (is : List Nat) (hs : is.map (fun i => w[i]?) = (w2.map (gren r)).map some) (hnd : va_nd is = true) (hk3 : w3.map (fun q => q.1) = w2.map (fun q => q.1)) (hn : av.length = n) (hR : gRoom R R' M'.2.2.1) (hW : (st.map fun v => v.category).sum ≤ 8) (hd : decode M.2.1 pc = .ok (.invokevirtual idx, 3)) (k : Go M R E (pc + 3, lv, (rr.map (gv r)).toList ++ st, gput w is (w3.map (gren r)))) : Go M R E (pc, lv, (av.map (gv r)).reverse ++ .ref (r b) :: st, w) := by
  obtain ⟨l1, l2, l3, l4, l5, l6, l7, l8, l9⟩ := hL
  refine gx_call (rr := rr) hs hnd hk3 _ (fun p l e s m args below meth c D ad cA cl sl H locs ls X hc hsl hK hP hD hls => ?_) k
  refine ⟨_, va_runU (As := av.map (gv (fun k => ad (r k)))) (b := ad (r b)) (n := n) (Ts := gTB) ⟨X.1, X.2.1, X.2.2.2.1, X.2.2.2.2.1, X.2.2.2.2.2.1⟩ (hC l D (fun k => ad (r k)) cA H.size) (va_cwU (owner := M'.1.cls) n X.2.2.2.2.2.1 (gGood ?_) rfl hR.1 hR.2.1 l7 ⟨l8.1, l8.2.1, l9⟩ hR.2.2) ⟨gPc_blind, va_recv hK hP hci (gw_at hb), fun U hU hW => ⟨rfl, by rw [hU], by rw [hU]; exact hP, va_K.moved hW.alike hK, hD, fun z hz => va_Nw.warmM hW (X.2.2.2.2.2.2.2 z hz)⟩⟩ rfl (by rw [List.length_map]; exact hn) hls ?_ (lv_room (by rw [gst_cat]; exact hW)) hd ⟨hc, hsl⟩⟩
  · intro w hw
    simp only [va_wsU, gws, List.cons_append, List.nil_append, List.mem_cons] at hw
    rcases hw with rfl | rfl | rfl | rfl | rfl | rfl | hw
    · exact l1
    · exact l2
    · exact l3
    · exact l4
    · exact l5
    · exact l6
    · exact hw
  · show ((av.map (gv r)).reverse ++ .ref (r b) :: st).map (gv ad) = _
    rw [List.map_append, List.map_reverse, ← gvs_comp]
    rfl
/-- a static call of a private method of a nest mate -/
theorem Go.callN (hC : Cd M' R' av w2 rr w3) {host : String} (hL : gLN M.1.cls idx host M' n) (r : Nat → Nat) (is : List Nat) (hs : is.map (fun i => w[i]?) = (w2.map (gren r)).map some) (hnd : va_nd is = true) (hk3 : w3.map (fun q => q.1) = w2.map (fun q => q.1)) (hn : av.length = n) (hR : gRoom R R' M'.2.2.1) (hW : (st.map fun v => v.category).sum ≤ 8) (hd : decode M.2.1 pc = .ok (.invokestatic idx, 3)) (k : Go M R E (pc + 3, lv, (rr.map (gv r)).toList ++ st, gput w is (w3.map (gren r)))) : Go M R E (pc, lv, (av.map (gv r)).reverse ++ st, w) := by
  obtain ⟨l1, l2, l3, l4, l5⟩ := hL
  refine gx_call (rr := rr) hs hnd hk3 _ (fun p l e s m args below meth c D ad cA cl sl H locs ls X hc hsl hK hP hD hls => ?_) k
  refine ⟨_, va_runSN (host := host) (As := av.map (gv (fun k => ad (r k)))) (n := n) (Ts := gTB) ⟨X.1, X.2.1, X.2.2.2.1, X.2.2.2.2.1, X.2.2.2.2.2.1⟩ (hC l D (fun k => ad (r k)) cA H.size) ⟨va_cnB n X.2.2.2.2.2.1 (gGood ?_) rfl hR.1 hR.2.1 (X.2.2.2.2.2.2.2 _ l1) (X.2.2.2.2.2.1 _ l3) l5 hR.2.2, X.2.2.2.2.2.1 _ l2, trivial⟩ ⟨gPc_blind, fun U hU hW => ⟨rfl, by rw [hU], by rw [hU]; exact hP, va_K.moved hW.alike hK, hD, fun z hz => va_Nw.warmM hW (X.2.2.2.2.2.2.2 z hz)⟩⟩ rfl (by rw [List.length_map]; exact hn) hls ?_ (lv_room (by rw [gst_cat]; exact hW)) hd ⟨hc, hsl⟩⟩
  · intro w hw
    simp only [gws, List.mem_cons] at hw
    rcases hw with rfl | hw
    · exact l4
    · exact hw
  · show ((av.map (gv r)).reverse ++ st).map (gv ad) = _
    rw [List.map_append, List.map_reverse, ← gvs_comp]
end Calls
end
section
theorem tt_one : (1:Nat) = 1 := rfl
end
