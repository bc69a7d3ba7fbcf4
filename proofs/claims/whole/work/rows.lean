section
-- ===== PART A: goes FIRST, ahead of the names: the tables' words, and 'selects' of the private methods out of them =====
/-- a private method of a class that the tables say can be made, by its rows of tables_1 -/
def lw_okq (q : MethodName × Nat) : Prop := (q.1.cls ≠ "java/lang/invoke/MethodHandle" ∧ q.1.cls ≠ "java/lang/invoke/VarHandle") ∧ Cond.instantiable q.1.cls q.2 ∈ tables_1 ∧ Cond.privateMethod q.1 ∈ tables_1 ∧ Cond.instanceMethod q.1 ∈ tables_1
theorem lw_p0 : lw_okq (⟨"PointingArms", "readThing", "()V"⟩, 10) := ⟨⟨by decide +kernel, by decide +kernel⟩, List.mem_of_getElem? (i := 15) (by decide +kernel), List.mem_of_getElem? (i := 324) (by decide +kernel), List.mem_of_getElem? (i := 325) (by decide +kernel)⟩
theorem lw_p1 : lw_okq (⟨"PointingArms$Tape", "next", "()I"⟩, 4) := ⟨⟨by decide +kernel, by decide +kernel⟩, List.mem_of_getElem? (i := 107) (by decide +kernel), List.mem_of_getElem? (i := 336) (by decide +kernel), List.mem_of_getElem? (i := 337) (by decide +kernel)⟩
theorem lw_p2 : lw_okq (⟨"PointingArms", "readSentence", "(I)V"⟩, 10) := ⟨⟨by decide +kernel, by decide +kernel⟩, List.mem_of_getElem? (i := 15) (by decide +kernel), List.mem_of_getElem? (i := 384) (by decide +kernel), List.mem_of_getElem? (i := 385) (by decide +kernel)⟩
theorem lw_p3 : lw_okq (⟨"PointingArms", "readArm", "(I)V"⟩, 10) := ⟨⟨by decide +kernel, by decide +kernel⟩, List.mem_of_getElem? (i := 15) (by decide +kernel), List.mem_of_getElem? (i := 388) (by decide +kernel), List.mem_of_getElem? (i := 389) (by decide +kernel)⟩
theorem lw_p4 : lw_okq (⟨"PointingArms", "meaningOf", "(IIII)I"⟩, 10) := ⟨⟨by decide +kernel, by decide +kernel⟩, List.mem_of_getElem? (i := 15) (by decide +kernel), List.mem_of_getElem? (i := 441) (by decide +kernel), List.mem_of_getElem? (i := 442) (by decide +kernel)⟩
theorem lw_p5 : lw_okq (⟨"PointingArms", "metBy", "(IIII)I"⟩, 10) := ⟨⟨by decide +kernel, by decide +kernel⟩, List.mem_of_getElem? (i := 15) (by decide +kernel), List.mem_of_getElem? (i := 445) (by decide +kernel), List.mem_of_getElem? (i := 446) (by decide +kernel)⟩
theorem lw_p6 : lw_okq (⟨"PointingArms$Field", "isAhead", "(IIIII)Z"⟩, 6) := ⟨⟨by decide +kernel, by decide +kernel⟩, List.mem_of_getElem? (i := 46) (by decide +kernel), List.mem_of_getElem? (i := 458) (by decide +kernel), List.mem_of_getElem? (i := 459) (by decide +kernel)⟩
theorem lw_p7 : lw_okq (⟨"PointingArms", "meaningOfSentence", "(II)I"⟩, 10) := ⟨⟨by decide +kernel, by decide +kernel⟩, List.mem_of_getElem? (i := 15) (by decide +kernel), List.mem_of_getElem? (i := 470) (by decide +kernel), List.mem_of_getElem? (i := 471) (by decide +kernel)⟩
theorem lw_p8 : lw_okq (⟨"PointingArms", "areTwo", "(II)Z"⟩, 10) := ⟨⟨by decide +kernel, by decide +kernel⟩, List.mem_of_getElem? (i := 15) (by decide +kernel), List.mem_of_getElem? (i := 495) (by decide +kernel), List.mem_of_getElem? (i := 496) (by decide +kernel)⟩
theorem lw_p9 : lw_okq (⟨"PointingArms", "isSet", "(I)Z"⟩, 10) := ⟨⟨by decide +kernel, by decide +kernel⟩, List.mem_of_getElem? (i := 15) (by decide +kernel), List.mem_of_getElem? (i := 528) (by decide +kernel), List.mem_of_getElem? (i := 529) (by decide +kernel)⟩
theorem lw_p10 : lw_okq (⟨"PointingArms$Cover", "collect", "(LPointingArms$Field;LPointingArms$Fan;III)Z"⟩, 3) := ⟨⟨by decide +kernel, by decide +kernel⟩, List.mem_of_getElem? (i := 130) (by decide +kernel), List.mem_of_getElem? (i := 536) (by decide +kernel), List.mem_of_getElem? (i := 537) (by decide +kernel)⟩
theorem lw_p11 : lw_okq (⟨"PointingArms$Cover", "note", "(I)V"⟩, 3) := ⟨⟨by decide +kernel, by decide +kernel⟩, List.mem_of_getElem? (i := 130) (by decide +kernel), List.mem_of_getElem? (i := 550) (by decide +kernel), List.mem_of_getElem? (i := 551) (by decide +kernel)⟩
theorem lw_p12 : lw_okq (⟨"PointingArms$Cover", "goOnFrom", "(I)V"⟩, 3) := ⟨⟨by decide +kernel, by decide +kernel⟩, List.mem_of_getElem? (i := 130) (by decide +kernel), List.mem_of_getElem? (i := 554) (by decide +kernel), List.mem_of_getElem? (i := 555) (by decide +kernel)⟩
theorem lw_p13 : lw_okq (⟨"PointingArms", "asideAt", "(IIIII)I"⟩, 10) := ⟨⟨by decide +kernel, by decide +kernel⟩, List.mem_of_getElem? (i := 15) (by decide +kernel), List.mem_of_getElem? (i := 562) (by decide +kernel), List.mem_of_getElem? (i := 563) (by decide +kernel)⟩
theorem lw_p14 : lw_okq (⟨"PointingArms", "couldStand", "(II)Z"⟩, 10) := ⟨⟨by decide +kernel, by decide +kernel⟩, List.mem_of_getElem? (i := 15) (by decide +kernel), List.mem_of_getElem? (i := 577) (by decide +kernel), List.mem_of_getElem? (i := 578) (by decide +kernel)⟩
theorem lw_p15 : lw_okq (⟨"PointingArms$Layout", "bring", "(LPointingArms$Field;I)V"⟩, 3) := ⟨⟨by decide +kernel, by decide +kernel⟩, List.mem_of_getElem? (i := 146) (by decide +kernel), List.mem_of_getElem? (i := 593) (by decide +kernel), List.mem_of_getElem? (i := 594) (by decide +kernel)⟩
def lw_privs_1 : List (MethodName × Nat) := [(⟨"PointingArms", "readThing", "()V"⟩, 10), (⟨"PointingArms$Tape", "next", "()I"⟩, 4), (⟨"PointingArms", "readSentence", "(I)V"⟩, 10), (⟨"PointingArms", "readArm", "(I)V"⟩, 10), (⟨"PointingArms", "meaningOf", "(IIII)I"⟩, 10), (⟨"PointingArms", "metBy", "(IIII)I"⟩, 10), (⟨"PointingArms$Field", "isAhead", "(IIIII)Z"⟩, 6), (⟨"PointingArms", "meaningOfSentence", "(II)I"⟩, 10), (⟨"PointingArms", "areTwo", "(II)Z"⟩, 10), (⟨"PointingArms", "isSet", "(I)Z"⟩, 10), (⟨"PointingArms$Cover", "collect", "(LPointingArms$Field;LPointingArms$Fan;III)Z"⟩, 3), (⟨"PointingArms$Cover", "note", "(I)V"⟩, 3), (⟨"PointingArms$Cover", "goOnFrom", "(I)V"⟩, 3), (⟨"PointingArms", "asideAt", "(IIIII)I"⟩, 10), (⟨"PointingArms", "couldStand", "(II)Z"⟩, 10), (⟨"PointingArms$Layout", "bring", "(LPointingArms$Field;I)V"⟩, 3)]
theorem lw_r1 : ∀ q ∈ lw_privs_1, lw_okq q := List.forall_mem_cons.mpr ⟨lw_p0, List.forall_mem_cons.mpr ⟨lw_p1, List.forall_mem_cons.mpr ⟨lw_p2, List.forall_mem_cons.mpr ⟨lw_p3, List.forall_mem_cons.mpr ⟨lw_p4, List.forall_mem_cons.mpr ⟨lw_p5, List.forall_mem_cons.mpr ⟨lw_p6, List.forall_mem_cons.mpr ⟨lw_p7, List.forall_mem_cons.mpr ⟨lw_p8, List.forall_mem_cons.mpr ⟨lw_p9, List.forall_mem_cons.mpr ⟨lw_p10, List.forall_mem_cons.mpr ⟨lw_p11, List.forall_mem_cons.mpr ⟨lw_p12, List.forall_mem_cons.mpr ⟨lw_p13, List.forall_mem_cons.mpr ⟨lw_p14, List.forall_mem_cons.mpr ⟨lw_p15, fun _ h => absurd h List.not_mem_nil⟩⟩⟩⟩⟩⟩⟩⟩⟩⟩⟩⟩⟩⟩⟩⟩
theorem lw_p16 : lw_okq (⟨"PointingArms$Layout", "choose", "(III)Z"⟩, 3) := ⟨⟨by decide +kernel, by decide +kernel⟩, List.mem_of_getElem? (i := 146) (by decide +kernel), List.mem_of_getElem? (i := 605) (by decide +kernel), List.mem_of_getElem? (i := 606) (by decide +kernel)⟩
theorem lw_p17 : lw_okq (⟨"PointingArms$Layout", "lay", "(LPointingArms$Rows;III)I"⟩, 3) := ⟨⟨by decide +kernel, by decide +kernel⟩, List.mem_of_getElem? (i := 146) (by decide +kernel), List.mem_of_getElem? (i := 610) (by decide +kernel), List.mem_of_getElem? (i := 611) (by decide +kernel)⟩
theorem lw_p18 : lw_okq (⟨"PointingArms$Layout", "eachAlone", "(LPointingArms$Fan;III)Z"⟩, 3) := ⟨⟨by decide +kernel, by decide +kernel⟩, List.mem_of_getElem? (i := 146) (by decide +kernel), List.mem_of_getElem? (i := 617) (by decide +kernel), List.mem_of_getElem? (i := 618) (by decide +kernel)⟩
theorem lw_p19 : lw_okq (⟨"PointingArms", "sheetOf", "(I)LPointingArms$Sheet;"⟩, 10) := ⟨⟨by decide +kernel, by decide +kernel⟩, List.mem_of_getElem? (i := 15) (by decide +kernel), List.mem_of_getElem? (i := 650) (by decide +kernel), List.mem_of_getElem? (i := 651) (by decide +kernel)⟩
theorem lw_p20 : lw_okq (⟨"PointingArmsModel", "comes", "(IIII)V"⟩, 31) := ⟨⟨by decide +kernel, by decide +kernel⟩, List.mem_of_getElem? (i := 712) (by decide +kernel), List.mem_of_getElem? (i := 827) (by decide +kernel), List.mem_of_getElem? (i := 828) (by decide +kernel)⟩
theorem lw_p21 : lw_okq (⟨"PointingArmsModel", "isThing", "(I)Z"⟩, 31) := ⟨⟨by decide +kernel, by decide +kernel⟩, List.mem_of_getElem? (i := 712) (by decide +kernel), List.mem_of_getElem? (i := 838) (by decide +kernel), List.mem_of_getElem? (i := 839) (by decide +kernel)⟩
theorem lw_p22 : lw_okq (⟨"PointingArmsModel", "middle", "(III)I"⟩, 31) := ⟨⟨by decide +kernel, by decide +kernel⟩, List.mem_of_getElem? (i := 712) (by decide +kernel), List.mem_of_getElem? (i := 851) (by decide +kernel), List.mem_of_getElem? (i := 852) (by decide +kernel)⟩
theorem lw_p23 : lw_okq (⟨"PointingArmsModel", "isOne", "(I)Z"⟩, 31) := ⟨⟨by decide +kernel, by decide +kernel⟩, List.mem_of_getElem? (i := 712) (by decide +kernel), List.mem_of_getElem? (i := 863) (by decide +kernel), List.mem_of_getElem? (i := 864) (by decide +kernel)⟩
theorem lw_p24 : lw_okq (⟨"PointingArmsModel", "number", "()I"⟩, 31) := ⟨⟨by decide +kernel, by decide +kernel⟩, List.mem_of_getElem? (i := 712) (by decide +kernel), List.mem_of_getElem? (i := 883) (by decide +kernel), List.mem_of_getElem? (i := 884) (by decide +kernel)⟩
theorem lw_p25 : lw_okq (⟨"PointingArmsModel", "here", "()I"⟩, 31) := ⟨⟨by decide +kernel, by decide +kernel⟩, List.mem_of_getElem? (i := 712) (by decide +kernel), List.mem_of_getElem? (i := 887) (by decide +kernel), List.mem_of_getElem? (i := 888) (by decide +kernel)⟩
theorem lw_p26 : lw_okq (⟨"PointingArmsModel", "comma", "()V"⟩, 31) := ⟨⟨by decide +kernel, by decide +kernel⟩, List.mem_of_getElem? (i := 712) (by decide +kernel), List.mem_of_getElem? (i := 893) (by decide +kernel), List.mem_of_getElem? (i := 894) (by decide +kernel)⟩
theorem lw_p27 : lw_okq (⟨"PointingArmsModel", "has", "(I)Z"⟩, 31) := ⟨⟨by decide +kernel, by decide +kernel⟩, List.mem_of_getElem? (i := 712) (by decide +kernel), List.mem_of_getElem? (i := 897) (by decide +kernel), List.mem_of_getElem? (i := 898) (by decide +kernel)⟩
theorem lw_p28 : lw_okq (⟨"PointingArmsModel", "digit", "(I)I"⟩, 31) := ⟨⟨by decide +kernel, by decide +kernel⟩, List.mem_of_getElem? (i := 712) (by decide +kernel), List.mem_of_getElem? (i := 901) (by decide +kernel), List.mem_of_getElem? (i := 902) (by decide +kernel)⟩
theorem lw_p29 : lw_okq (⟨"PointingArmsModel", "arm", "(I)V"⟩, 31) := ⟨⟨by decide +kernel, by decide +kernel⟩, List.mem_of_getElem? (i := 712) (by decide +kernel), List.mem_of_getElem? (i := 909) (by decide +kernel), List.mem_of_getElem? (i := 910) (by decide +kernel)⟩
theorem lw_p30 : lw_okq (⟨"PointingArmsModel", "signed", "()I"⟩, 31) := ⟨⟨by decide +kernel, by decide +kernel⟩, List.mem_of_getElem? (i := 712) (by decide +kernel), List.mem_of_getElem? (i := 913) (by decide +kernel), List.mem_of_getElem? (i := 914) (by decide +kernel)⟩
theorem lw_p31 : lw_okq (⟨"PointingArmsModel", "meetsAt", "(IIIII)I"⟩, 31) := ⟨⟨by decide +kernel, by decide +kernel⟩, List.mem_of_getElem? (i := 712) (by decide +kernel), List.mem_of_getElem? (i := 930) (by decide +kernel), List.mem_of_getElem? (i := 931) (by decide +kernel)⟩
def lw_privs_2 : List (MethodName × Nat) := [(⟨"PointingArms$Layout", "choose", "(III)Z"⟩, 3), (⟨"PointingArms$Layout", "lay", "(LPointingArms$Rows;III)I"⟩, 3), (⟨"PointingArms$Layout", "eachAlone", "(LPointingArms$Fan;III)Z"⟩, 3), (⟨"PointingArms", "sheetOf", "(I)LPointingArms$Sheet;"⟩, 10), (⟨"PointingArmsModel", "comes", "(IIII)V"⟩, 31), (⟨"PointingArmsModel", "isThing", "(I)Z"⟩, 31), (⟨"PointingArmsModel", "middle", "(III)I"⟩, 31), (⟨"PointingArmsModel", "isOne", "(I)Z"⟩, 31), (⟨"PointingArmsModel", "number", "()I"⟩, 31), (⟨"PointingArmsModel", "here", "()I"⟩, 31), (⟨"PointingArmsModel", "comma", "()V"⟩, 31), (⟨"PointingArmsModel", "has", "(I)Z"⟩, 31), (⟨"PointingArmsModel", "digit", "(I)I"⟩, 31), (⟨"PointingArmsModel", "arm", "(I)V"⟩, 31), (⟨"PointingArmsModel", "signed", "()I"⟩, 31), (⟨"PointingArmsModel", "meetsAt", "(IIIII)I"⟩, 31)]
theorem lw_r2 : ∀ q ∈ lw_privs_2, lw_okq q := List.forall_mem_cons.mpr ⟨lw_p16, List.forall_mem_cons.mpr ⟨lw_p17, List.forall_mem_cons.mpr ⟨lw_p18, List.forall_mem_cons.mpr ⟨lw_p19, List.forall_mem_cons.mpr ⟨lw_p20, List.forall_mem_cons.mpr ⟨lw_p21, List.forall_mem_cons.mpr ⟨lw_p22, List.forall_mem_cons.mpr ⟨lw_p23, List.forall_mem_cons.mpr ⟨lw_p24, List.forall_mem_cons.mpr ⟨lw_p25, List.forall_mem_cons.mpr ⟨lw_p26, List.forall_mem_cons.mpr ⟨lw_p27, List.forall_mem_cons.mpr ⟨lw_p28, List.forall_mem_cons.mpr ⟨lw_p29, List.forall_mem_cons.mpr ⟨lw_p30, List.forall_mem_cons.mpr ⟨lw_p31, fun _ h => absurd h List.not_mem_nil⟩⟩⟩⟩⟩⟩⟩⟩⟩⟩⟩⟩⟩⟩⟩⟩
theorem lw_p32 : lw_okq (⟨"PointingArmsModel", "isMet", "(IIIIIII)Z"⟩, 31) := ⟨⟨by decide +kernel, by decide +kernel⟩, List.mem_of_getElem? (i := 712) (by decide +kernel), List.mem_of_getElem? (i := 934) (by decide +kernel), List.mem_of_getElem? (i := 935) (by decide +kernel)⟩
theorem lw_p33 : lw_okq (⟨"PointingArmsModel", "meansAt", "(IIIII)I"⟩, 31) := ⟨⟨by decide +kernel, by decide +kernel⟩, List.mem_of_getElem? (i := 712) (by decide +kernel), List.mem_of_getElem? (i := 942) (by decide +kernel), List.mem_of_getElem? (i := 943) (by decide +kernel)⟩
theorem lw_p34 : lw_okq (⟨"PointingArmsModel", "ahead", "(IIIIII)I"⟩, 31) := ⟨⟨by decide +kernel, by decide +kernel⟩, List.mem_of_getElem? (i := 712) (by decide +kernel), List.mem_of_getElem? (i := 946) (by decide +kernel), List.mem_of_getElem? (i := 947) (by decide +kernel)⟩
theorem lw_p35 : lw_okq (⟨"PointingArmsModel", "saysAt", "(II)I"⟩, 31) := ⟨⟨by decide +kernel, by decide +kernel⟩, List.mem_of_getElem? (i := 712) (by decide +kernel), List.mem_of_getElem? (i := 958) (by decide +kernel), List.mem_of_getElem? (i := 959) (by decide +kernel)⟩
theorem lw_p36 : lw_okq (⟨"PointingArmsModel", "aloneBy", "(III)I"⟩, 31) := ⟨⟨by decide +kernel, by decide +kernel⟩, List.mem_of_getElem? (i := 712) (by decide +kernel), List.mem_of_getElem? (i := 988) (by decide +kernel), List.mem_of_getElem? (i := 989) (by decide +kernel)⟩
theorem lw_p37 : lw_okq (⟨"PointingArmsModel", "isSet", "(I)Z"⟩, 31) := ⟨⟨by decide +kernel, by decide +kernel⟩, List.mem_of_getElem? (i := 712) (by decide +kernel), List.mem_of_getElem? (i := 1002) (by decide +kernel), List.mem_of_getElem? (i := 1003) (by decide +kernel)⟩
theorem lw_p38 : lw_okq (⟨"PointingArmsModel", "fewestOf", "(III)I"⟩, 31) := ⟨⟨by decide +kernel, by decide +kernel⟩, List.mem_of_getElem? (i := 712) (by decide +kernel), List.mem_of_getElem? (i := 1006) (by decide +kernel), List.mem_of_getElem? (i := 1007) (by decide +kernel)⟩
theorem lw_p39 : lw_okq (⟨"PointingArmsModel", "lays", "(II)Z"⟩, 31) := ⟨⟨by decide +kernel, by decide +kernel⟩, List.mem_of_getElem? (i := 712) (by decide +kernel), List.mem_of_getElem? (i := 1034) (by decide +kernel), List.mem_of_getElem? (i := 1035) (by decide +kernel)⟩
theorem lw_p40 : lw_okq (⟨"PointingArmsModel", "isClear", "(III)Z"⟩, 31) := ⟨⟨by decide +kernel, by decide +kernel⟩, List.mem_of_getElem? (i := 712) (by decide +kernel), List.mem_of_getElem? (i := 1038) (by decide +kernel), List.mem_of_getElem? (i := 1039) (by decide +kernel)⟩
theorem lw_p41 : lw_okq (⟨"PointingArmsModel", "metOn", "(IIIII)I"⟩, 31) := ⟨⟨by decide +kernel, by decide +kernel⟩, List.mem_of_getElem? (i := 712) (by decide +kernel), List.mem_of_getElem? (i := 1042) (by decide +kernel), List.mem_of_getElem? (i := 1043) (by decide +kernel)⟩
theorem lw_p42 : lw_okq (⟨"PointingArmsModel", "lay", "([II)I"⟩, 31) := ⟨⟨by decide +kernel, by decide +kernel⟩, List.mem_of_getElem? (i := 712) (by decide +kernel), List.mem_of_getElem? (i := 1054) (by decide +kernel), List.mem_of_getElem? (i := 1055) (by decide +kernel)⟩
theorem lw_p43 : lw_okq (⟨"PointingArmsModel", "gives", "(I[I)I"⟩, 31) := ⟨⟨by decide +kernel, by decide +kernel⟩, List.mem_of_getElem? (i := 712) (by decide +kernel), List.mem_of_getElem? (i := 1062) (by decide +kernel), List.mem_of_getElem? (i := 1063) (by decide +kernel)⟩
theorem lw_p44 : lw_okq (⟨"PointingArmsModel", "finds", "(IIII)I"⟩, 31) := ⟨⟨by decide +kernel, by decide +kernel⟩, List.mem_of_getElem? (i := 712) (by decide +kernel), List.mem_of_getElem? (i := 1077) (by decide +kernel), List.mem_of_getElem? (i := 1078) (by decide +kernel)⟩
def lw_privs_3 : List (MethodName × Nat) := [(⟨"PointingArmsModel", "isMet", "(IIIIIII)Z"⟩, 31), (⟨"PointingArmsModel", "meansAt", "(IIIII)I"⟩, 31), (⟨"PointingArmsModel", "ahead", "(IIIIII)I"⟩, 31), (⟨"PointingArmsModel", "saysAt", "(II)I"⟩, 31), (⟨"PointingArmsModel", "aloneBy", "(III)I"⟩, 31), (⟨"PointingArmsModel", "isSet", "(I)Z"⟩, 31), (⟨"PointingArmsModel", "fewestOf", "(III)I"⟩, 31), (⟨"PointingArmsModel", "lays", "(II)Z"⟩, 31), (⟨"PointingArmsModel", "isClear", "(III)Z"⟩, 31), (⟨"PointingArmsModel", "metOn", "(IIIII)I"⟩, 31), (⟨"PointingArmsModel", "lay", "([II)I"⟩, 31), (⟨"PointingArmsModel", "gives", "(I[I)I"⟩, 31), (⟨"PointingArmsModel", "finds", "(IIII)I"⟩, 31)]
theorem lw_r3 : ∀ q ∈ lw_privs_3, lw_okq q := List.forall_mem_cons.mpr ⟨lw_p32, List.forall_mem_cons.mpr ⟨lw_p33, List.forall_mem_cons.mpr ⟨lw_p34, List.forall_mem_cons.mpr ⟨lw_p35, List.forall_mem_cons.mpr ⟨lw_p36, List.forall_mem_cons.mpr ⟨lw_p37, List.forall_mem_cons.mpr ⟨lw_p38, List.forall_mem_cons.mpr ⟨lw_p39, List.forall_mem_cons.mpr ⟨lw_p40, List.forall_mem_cons.mpr ⟨lw_p41, List.forall_mem_cons.mpr ⟨lw_p42, List.forall_mem_cons.mpr ⟨lw_p43, List.forall_mem_cons.mpr ⟨lw_p44, fun _ h => absurd h List.not_mem_nil⟩⟩⟩⟩⟩⟩⟩⟩⟩⟩⟩⟩⟩
def lw_privs : List (MethodName × Nat) := lw_privs_1 ++ (lw_privs_2 ++ (lw_privs_3))
def lw_tbl : List Cond := k2_sels lw_privs ++ tables_1
theorem lw_privs_ok : ∀ q ∈ lw_privs, lw_okq q := by
  show ∀ q ∈ lw_privs_1 ++ (lw_privs_2 ++ (lw_privs_3)), lw_okq q
  exact List.forall_mem_append.mpr ⟨lw_r1, List.forall_mem_append.mpr ⟨lw_r2, lw_r3⟩⟩
end
section
/-! ===== BEGIN words of one list among another's, by their places ===== -/
theorem goodIn_r {big : List Cond} (ws : List Cond) (ps : List Nat) (hp : ws = ps.filterMap (fun i => big[i]?)) (h : ws.all goodWord = true) : GoodIn big ws := by
  intro w hw
  have h1 := List.all_eq_true.mp h w hw
  rw [hp] at hw
  obtain ⟨i, -, hi⟩ := List.mem_filterMap.mp hw
  have hm : w ∈ big := by first | exact List.mem_of_getElem? hi | exact List.getElem?_mem hi
  exact ⟨hm, good_of_word h1⟩
theorem goodIn_app {big a b : List Cond} (ha : GoodIn big a) (hb : GoodIn big b) : GoodIn big (a ++ b) := fun w h => (List.mem_append.mp h).elim (ha w) (hb w)
theorem goodIn_ca {big a b : List Cond} {c : Cond} (ha : GoodIn big (c :: a)) (hb : GoodIn big b) : GoodIn big (c :: (a ++ b)) := fun w h => (List.mem_cons.mp h).elim (fun e => ha w (List.mem_cons.mpr (Or.inl e))) (fun h => (List.mem_append.mp h).elim (fun h => ha w (List.mem_cons.mpr (Or.inr h))) (hb w))
theorem goodIn_sub {big ws : List Cond} (hm : ∀ w ∈ ws, w ∈ big) (h : ws.all goodWord = true) : GoodIn big ws := fun w hw => ⟨hm w hw, good_of_word (List.all_eq_true.mp h w hw)⟩
/-! ===== END ===== -/
def RX0 : String := "PointingArms$Cover"
def TX0 : u_T := fun k => match k with
  | 0 => ("PointingArms$Cover", "meanings", "[I", true)
  | 1 => ("PointingArms$Cover", "size", "I", false)
  | _ => ("PointingArms$Cover", "least", "[I", true)
def tyX0 : Nat → FieldType := fun k => match k with
  | 0 => .array .int
  | 1 => .int
  | _ => .array .int
abbrev wsX00 : List Cond := u_ws RX0 TX0 3
theorem nmX0 : ∀ a, a < 3 → ∀ b, b < 3 → a ≠ b → (TX0 a).2.1 ≠ (TX0 b).2.1 := by decide +kernel
theorem tyX0_ok : ∀ k, k < 3 → parseFieldDescriptor (TX0 k).2.2.1 = some (tyX0 k) := by decide +kernel
abbrev cX0_init : ByteArray := prog_2_method_1_code
def yX0_init : MethodName := ⟨RX0, "<init>", "()V"⟩
abbrev cX0_fewestArms : ByteArray := prog_2_method_2_code
def yX0_fewestArms : MethodName := ⟨RX0, "fewestArms", "(LPointingArms$Field;LPointingArms$Fan;III)I"⟩
abbrev cX0_collect : ByteArray := prog_2_method_3_code
def yX0_collect : MethodName := ⟨RX0, "collect", "(LPointingArms$Field;LPointingArms$Fan;III)Z"⟩
abbrev cX0_note : ByteArray := prog_2_method_4_code
def yX0_note : MethodName := ⟨RX0, "note", "(I)V"⟩
abbrev cX0_goOnFrom : ByteArray := prog_2_method_5_code
def yX0_goOnFrom : MethodName := ⟨RX0, "goOnFrom", "(I)V"⟩
def RX1 : String := "PointingArms$Fan"
def TX1 : u_T := fun k => match k with
  | 0 => ("PointingArms$Fan", "byX", "[I", true)
  | _ => ("PointingArms$Fan", "byY", "[I", true)
def tyX1 : Nat → FieldType := fun k => match k with
  | 0 => .array .int
  | _ => .array .int
abbrev wsX10 : List Cond := u_ws RX1 TX1 2
theorem nmX1 : ∀ a, a < 2 → ∀ b, b < 2 → a ≠ b → (TX1 a).2.1 ≠ (TX1 b).2.1 := by decide +kernel
theorem tyX1_ok : ∀ k, k < 2 → parseFieldDescriptor (TX1 k).2.2.1 = some (tyX1 k) := by decide +kernel
abbrev cX1_init : ByteArray := prog_3_method_1_code
def yX1_init : MethodName := ⟨RX1, "<init>", "()V"⟩
abbrev cX1_haveDivisor : ByteArray := prog_3_method_2_code
def yX1_haveDivisor : MethodName := ⟨RX1, "haveDivisor", "(II)Z"⟩
abbrev cX1_dx : ByteArray := prog_3_method_3_code
def yX1_dx : MethodName := ⟨RX1, "dx", "(I)I"⟩
abbrev cX1_dy : ByteArray := prog_3_method_4_code
def yX1_dy : MethodName := ⟨RX1, "dy", "(I)I"⟩
abbrev cX1_canMean : ByteArray := prog_3_method_5_code
def yX1_canMean : MethodName := ⟨RX1, "canMean", "(LPointingArms$Field;III)Z"⟩
abbrev cX1_armsFor : ByteArray := prog_3_method_6_code
def yX1_armsFor : MethodName := ⟨RX1, "armsFor", "(LPointingArms$Field;III)I"⟩
def RX2 : String := "PointingArms$Field"
def TX2 : u_T := fun k => match k with
  | 0 => ("PointingArms$Rows", "width", "I", true)
  | 1 => ("PointingArms$Rows", "most", "I", true)
  | 2 => ("PointingArms$Rows", "cells", "[I", true)
  | 3 => ("PointingArms$Rows", "size", "I", false)
  | 4 => ("PointingArms$Field", "firstOnly", "I", false)
  | _ => ("PointingArms$Field", "touched", "I", false)
def tyX2 : Nat → FieldType := fun k => match k with
  | 0 => .int
  | 1 => .int
  | 2 => .array .int
  | 3 => .int
  | 4 => .int
  | _ => .int
abbrev wsX20 : List Cond := u_ws RX2 TX2 6
theorem nmX2 : ∀ a, a < 6 → ∀ b, b < 6 → a ≠ b → (TX2 a).2.1 ≠ (TX2 b).2.1 := by decide +kernel
theorem tyX2_ok : ∀ k, k < 6 → parseFieldDescriptor (TX2 k).2.2.1 = some (tyX2 k) := by decide +kernel
abbrev cX2_init : ByteArray := prog_4_method_1_code
def yX2_init : MethodName := ⟨RX2, "<init>", "()V"⟩
abbrev cX2_changeLaw : ByteArray := prog_4_method_2_code
def yX2_changeLaw : MethodName := ⟨RX2, "changeLaw", "(II)I"⟩
abbrev cX2_takeLaws : ByteArray := prog_4_method_3_code
def yX2_takeLaws : MethodName := ⟨RX2, "takeLaws", "(LPointingArms$Field;)V"⟩
abbrev cX2_middle : ByteArray := prog_4_method_4_code
def yX2_middle : MethodName := ⟨RX2, "middle", "(III)I"⟩
abbrev cX2_isMet : ByteArray := prog_4_method_5_code
def yX2_isMet : MethodName := ⟨RX2, "isMet", "(IIIIII)Z"⟩
abbrev cX2_metBy : ByteArray := prog_4_method_6_code
def yX2_metBy : MethodName := ⟨RX2, "metBy", "(IIIII)I"⟩
abbrev cX2_narrowed : ByteArray := prog_4_method_7_code
def yX2_narrowed : MethodName := ⟨RX2, "narrowed", "(IIII)I"⟩
abbrev cX2_meansJust : ByteArray := prog_4_method_8_code
def yX2_meansJust : MethodName := ⟨RX2, "meansJust", "(IIIII)Z"⟩
abbrev cX2_isAhead : ByteArray := prog_4_method_9_code
def yX2_isAhead : MethodName := ⟨RX2, "isAhead", "(IIIII)Z"⟩
def RX3 : String := "PointingArms$Layout"
def TX3 : u_T := fun k => match k with
  | 0 => ("PointingArms$Layout", "laid", "LPointingArms$Field;", true)
  | 1 => ("PointingArms$Layout", "tried", "[I", true)
  | _ => ("PointingArms$Layout", "chosen", "[I", true)
def tyX3 : Nat → FieldType := fun k => match k with
  | 0 => .object "PointingArms$Field"
  | 1 => .array .int
  | _ => .array .int
abbrev wsX30 : List Cond := u_ws RX3 TX3 3
theorem nmX3 : ∀ a, a < 3 → ∀ b, b < 3 → a ≠ b → (TX3 a).2.1 ≠ (TX3 b).2.1 := by decide +kernel
theorem tyX3_ok : ∀ k, k < 3 → parseFieldDescriptor (TX3 k).2.2.1 = some (tyX3 k) := by decide +kernel
abbrev cX3_init : ByteArray := prog_5_method_1_code
def yX3_init : MethodName := ⟨RX3, "<init>", "()V"⟩
abbrev cX3_stallOf : ByteArray := prog_5_method_2_code
def yX3_stallOf : MethodName := ⟨RX3, "stallOf", "(I)I"⟩
abbrev cX3_leastWays : ByteArray := prog_5_method_3_code
def yX3_leastWays : MethodName := ⟨RX3, "leastWays", "(LPointingArms$Scene;LPointingArms$Fan;III)I"⟩
abbrev cX3_bring : ByteArray := prog_5_method_4_code
def yX3_bring : MethodName := ⟨RX3, "bring", "(LPointingArms$Field;I)V"⟩
abbrev cX3_choose : ByteArray := prog_5_method_5_code
def yX3_choose : MethodName := ⟨RX3, "choose", "(III)Z"⟩
abbrev cX3_lay : ByteArray := prog_5_method_6_code
def yX3_lay : MethodName := ⟨RX3, "lay", "(LPointingArms$Rows;III)I"⟩
abbrev cX3_eachAlone : ByteArray := prog_5_method_7_code
def yX3_eachAlone : MethodName := ⟨RX3, "eachAlone", "(LPointingArms$Fan;III)Z"⟩
def RX4 : String := "PointingArms$Rows"
def TX4 : u_T := fun k => match k with
  | 0 => ("PointingArms$Rows", "width", "I", true)
  | 1 => ("PointingArms$Rows", "most", "I", true)
  | 2 => ("PointingArms$Rows", "cells", "[I", true)
  | _ => ("PointingArms$Rows", "size", "I", false)
def tyX4 : Nat → FieldType := fun k => match k with
  | 0 => .int
  | 1 => .int
  | 2 => .array .int
  | _ => .int
abbrev wsX40 : List Cond := u_ws RX4 TX4 4
theorem nmX4 : ∀ a, a < 4 → ∀ b, b < 4 → a ≠ b → (TX4 a).2.1 ≠ (TX4 b).2.1 := by decide +kernel
theorem tyX4_ok : ∀ k, k < 4 → parseFieldDescriptor (TX4 k).2.2.1 = some (tyX4 k) := by decide +kernel
abbrev cX4_init : ByteArray := prog_6_method_1_code
def yX4_init : MethodName := ⟨RX4, "<init>", "(II)V"⟩
abbrev cX4_size : ByteArray := prog_6_method_2_code
def yX4_size : MethodName := ⟨RX4, "size", "()I"⟩
abbrev cX4_has : ByteArray := prog_6_method_3_code
def yX4_has : MethodName := ⟨RX4, "has", "(I)Z"⟩
abbrev cX4_open : ByteArray := prog_6_method_4_code
def yX4_open : MethodName := ⟨RX4, "open", "()I"⟩
abbrev cX4_get : ByteArray := prog_6_method_5_code
def yX4_get : MethodName := ⟨RX4, "get", "(II)I"⟩
abbrev cX4_put : ByteArray := prog_6_method_6_code
def yX4_put : MethodName := ⟨RX4, "put", "(III)I"⟩
abbrev cX4_empty : ByteArray := prog_6_method_7_code
def yX4_empty : MethodName := ⟨RX4, "empty", "()V"⟩
abbrev cX4_takeRows : ByteArray := prog_6_method_8_code
def yX4_takeRows : MethodName := ⟨RX4, "takeRows", "(LPointingArms$Rows;)V"⟩
def RX5 : String := "PointingArms$Scene"
def TX5 : u_T := fun k => match k with
  | 0 => ("PointingArms$Scene", "field", "LPointingArms$Field;", true)
  | 1 => ("PointingArms$Scene", "people", "LPointingArms$Rows;", true)
  | 2 => ("PointingArms$Scene", "arms", "LPointingArms$Rows;", true)
  | 3 => ("PointingArms$Scene", "stalls", "LPointingArms$Rows;", true)
  | _ => ("PointingArms$Scene", "told", "LPointingArms$Rows;", true)
def tyX5 : Nat → FieldType := fun k => match k with
  | 0 => .object "PointingArms$Field"
  | 1 => .object "PointingArms$Rows"
  | 2 => .object "PointingArms$Rows"
  | 3 => .object "PointingArms$Rows"
  | _ => .object "PointingArms$Rows"
abbrev wsX50 : List Cond := u_ws RX5 TX5 5
theorem nmX5 : ∀ a, a < 5 → ∀ b, b < 5 → a ≠ b → (TX5 a).2.1 ≠ (TX5 b).2.1 := by decide +kernel
theorem tyX5_ok : ∀ k, k < 5 → parseFieldDescriptor (TX5 k).2.2.1 = some (tyX5 k) := by decide +kernel
abbrev cX5_init : ByteArray := prog_7_method_1_code
def yX5_init : MethodName := ⟨RX5, "<init>", "()V"⟩
abbrev cX5_sentences : ByteArray := prog_7_method_2_code
def yX5_sentences : MethodName := ⟨RX5, "sentences", "()I"⟩
abbrev cX5_takeAll : ByteArray := prog_7_method_3_code
def yX5_takeAll : MethodName := ⟨RX5, "takeAll", "(LPointingArms$Scene;)V"⟩
def RX6 : String := "PointingArms$Sheet"
def TX6 : u_T := fun k => match k with
  | 0 => ("PointingArms$Sheet", "lane", "I", false)
  | 1 => ("PointingArms$Sheet", "size", "I", false)
  | _ => ("PointingArms$Sheet", "items", "[J", true)
def tyX6 : Nat → FieldType := fun k => match k with
  | 0 => .int
  | 1 => .int
  | _ => .array .long
abbrev wsX60 : List Cond := u_ws RX6 TX6 3
theorem nmX6 : ∀ a, a < 3 → ∀ b, b < 3 → a ≠ b → (TX6 a).2.1 ≠ (TX6 b).2.1 := by decide +kernel
theorem tyX6_ok : ∀ k, k < 3 → parseFieldDescriptor (TX6 k).2.2.1 = some (tyX6 k) := by decide +kernel
abbrev cX6_init : ByteArray := prog_8_method_1_code
def yX6_init : MethodName := ⟨RX6, "<init>", "()V"⟩
abbrev cX6_isMissing : ByteArray := prog_8_method_2_code
def yX6_isMissing : MethodName := ⟨RX6, "isMissing", "()Z"⟩
abbrev cX6_lane : ByteArray := prog_8_method_3_code
def yX6_lane : MethodName := ⟨RX6, "lane", "()I"⟩
abbrev cX6_size : ByteArray := prog_8_method_4_code
def yX6_size : MethodName := ⟨RX6, "size", "()I"⟩
abbrev cX6_renew : ByteArray := prog_8_method_5_code
def yX6_renew : MethodName := ⟨RX6, "renew", "(II)V"⟩
abbrev cX6_lose : ByteArray := prog_8_method_6_code
def yX6_lose : MethodName := ⟨RX6, "lose", "()V"⟩
abbrev cX6_refusal : ByteArray := prog_8_method_7_code
def yX6_refusal : MethodName := ⟨RX6, "refusal", "(III)I"⟩
abbrev cX6_get : ByteArray := prog_8_method_8_code
def yX6_get : MethodName := ⟨RX6, "get", "(I)J"⟩
abbrev cX6_put : ByteArray := prog_8_method_9_code
def yX6_put : MethodName := ⟨RX6, "put", "(IJ)V"⟩
abbrev cX6_takeItems : ByteArray := prog_8_method_10_code
def yX6_takeItems : MethodName := ⟨RX6, "takeItems", "(LPointingArms$Sheet;III)V"⟩
def RX7 : String := "PointingArms$Tape"
def TX7 : u_T := fun k => match k with
  | 0 => ("PointingArms$Tape", "bytes", "[I", true)
  | 1 => ("PointingArms$Tape", "size", "I", false)
  | 2 => ("PointingArms$Tape", "place", "I", false)
  | _ => ("PointingArms$Tape", "fault", "I", false)
def tyX7 : Nat → FieldType := fun k => match k with
  | 0 => .array .int
  | 1 => .int
  | 2 => .int
  | _ => .int
abbrev wsX70 : List Cond := u_ws RX7 TX7 4
theorem nmX7 : ∀ a, a < 4 → ∀ b, b < 4 → a ≠ b → (TX7 a).2.1 ≠ (TX7 b).2.1 := by decide +kernel
theorem tyX7_ok : ∀ k, k < 4 → parseFieldDescriptor (TX7 k).2.2.1 = some (tyX7 k) := by decide +kernel
abbrev cX7_init : ByteArray := prog_9_method_1_code
def yX7_init : MethodName := ⟨RX7, "<init>", "()V"⟩
abbrev cX7_canHold : ByteArray := prog_9_method_2_code
def yX7_canHold : MethodName := ⟨RX7, "canHold", "(JI)Z"⟩
abbrev cX7_byteOf : ByteArray := prog_9_method_3_code
def yX7_byteOf : MethodName := ⟨RX7, "byteOf", "(JI)I"⟩
abbrev cX7_size : ByteArray := prog_9_method_4_code
def yX7_size : MethodName := ⟨RX7, "size", "()I"⟩
abbrev cX7_append : ByteArray := prog_9_method_5_code
def yX7_append : MethodName := ⟨RX7, "append", "(JI)Z"⟩
abbrev cX7_begin : ByteArray := prog_9_method_6_code
def yX7_begin : MethodName := ⟨RX7, "begin", "()V"⟩
abbrev cX7_finish : ByteArray := prog_9_method_7_code
def yX7_finish : MethodName := ⟨RX7, "finish", "()I"⟩
abbrev cX7_failAt : ByteArray := prog_9_method_8_code
def yX7_failAt : MethodName := ⟨RX7, "failAt", "(I)V"⟩
abbrev cX7_placeOfNext : ByteArray := prog_9_method_9_code
def yX7_placeOfNext : MethodName := ⟨RX7, "placeOfNext", "()I"⟩
abbrev cX7_takes : ByteArray := prog_9_method_10_code
def yX7_takes : MethodName := ⟨RX7, "takes", "(C)Z"⟩
abbrev cX7_needs : ByteArray := prog_9_method_11_code
def yX7_needs : MethodName := ⟨RX7, "needs", "(C)V"⟩
abbrev cX7_readDigit : ByteArray := prog_9_method_12_code
def yX7_readDigit : MethodName := ⟨RX7, "readDigit", "(I)I"⟩
abbrev cX7_readSigned : ByteArray := prog_9_method_13_code
def yX7_readSigned : MethodName := ⟨RX7, "readSigned", "()I"⟩
abbrev cX7_readNumber : ByteArray := prog_9_method_14_code
def yX7_readNumber : MethodName := ⟨RX7, "readNumber", "(I)I"⟩
abbrev cX7_isDigit : ByteArray := prog_9_method_15_code
def yX7_isDigit : MethodName := ⟨RX7, "isDigit", "(I)Z"⟩
abbrev cX7_next : ByteArray := prog_9_method_16_code
def yX7_next : MethodName := ⟨RX7, "next", "()I"⟩
def RX8 : String := "PointingArms"
def TX8 : u_T := fun k => match k with
  | 0 => ("PointingArms", "fan", "LPointingArms$Fan;", true)
  | 1 => ("PointingArms", "now", "LPointingArms$Scene;", true)
  | 2 => ("PointingArms", "kept", "LPointingArms$Scene;", true)
  | 3 => ("PointingArms", "isKept", "Z", false)
  | 4 => ("PointingArms", "tape", "LPointingArms$Tape;", true)
  | 5 => ("PointingArms", "typedThings", "LPointingArms$Field;", true)
  | 6 => ("PointingArms", "typedArms", "LPointingArms$Rows;", true)
  | 7 => ("PointingArms", "cover", "LPointingArms$Cover;", true)
  | 8 => ("PointingArms", "layout", "LPointingArms$Layout;", true)
  | _ => ("PointingArms", "sheets", "[LPointingArms$Sheet;", true)
def tyX8 : Nat → FieldType := fun k => match k with
  | 0 => .object "PointingArms$Fan"
  | 1 => .object "PointingArms$Scene"
  | 2 => .object "PointingArms$Scene"
  | 3 => .boolean
  | 4 => .object "PointingArms$Tape"
  | 5 => .object "PointingArms$Field"
  | 6 => .object "PointingArms$Rows"
  | 7 => .object "PointingArms$Cover"
  | 8 => .object "PointingArms$Layout"
  | _ => .array (.object "PointingArms$Sheet")
abbrev wsX80 : List Cond := u_ws RX8 TX8 10
theorem nmX8 : ∀ a, a < 10 → ∀ b, b < 10 → a ≠ b → (TX8 a).2.1 ≠ (TX8 b).2.1 := by decide +kernel
theorem tyX8_ok : ∀ k, k < 10 → parseFieldDescriptor (TX8 k).2.2.1 = some (tyX8 k) := by decide +kernel
abbrev cX8_init : ByteArray := prog_1_method_1_code
def yX8_init : MethodName := ⟨RX8, "<init>", "()V"⟩
abbrev cX8_thing : ByteArray := prog_1_method_2_code
def yX8_thing : MethodName := ⟨RX8, "thing", "(III)I"⟩
abbrev cX8_make : ByteArray := prog_1_method_3_code
def yX8_make : MethodName := ⟨RX8, "make", "(III)I"⟩
abbrev cX8_at : ByteArray := prog_1_method_4_code
def yX8_at : MethodName := ⟨RX8, "at", "(III)I"⟩
abbrev cX8_person : ByteArray := prog_1_method_5_code
def yX8_person : MethodName := ⟨RX8, "person", "(II)I"⟩
abbrev cX8_walk : ByteArray := prog_1_method_6_code
def yX8_walk : MethodName := ⟨RX8, "walk", "(III)I"⟩
abbrev cX8_rule : ByteArray := prog_1_method_7_code
def yX8_rule : MethodName := ⟨RX8, "rule", "(II)I"⟩
abbrev cX8_type : ByteArray := prog_1_method_8_code
def yX8_type : MethodName := ⟨RX8, "type", "(JI)I"⟩
abbrev cX8_things : ByteArray := prog_1_method_9_code
def yX8_things : MethodName := ⟨RX8, "things", "()I"⟩
abbrev cX8_talk : ByteArray := prog_1_method_10_code
def yX8_talk : MethodName := ⟨RX8, "talk", "()I"⟩
abbrev cX8_count : ByteArray := prog_1_method_11_code
def yX8_count : MethodName := ⟨RX8, "count", "(I)I"⟩
abbrev cX8_meets : ByteArray := prog_1_method_12_code
def yX8_meets : MethodName := ⟨RX8, "meets", "(IIII)I"⟩
abbrev cX8_means : ByteArray := prog_1_method_13_code
def yX8_means : MethodName := ⟨RX8, "means", "(IIII)I"⟩
abbrev cX8_both : ByteArray := prog_1_method_14_code
def yX8_both : MethodName := ⟨RX8, "both", "(IIIIII)I"⟩
abbrev cX8_says : ByteArray := prog_1_method_15_code
def yX8_says : MethodName := ⟨RX8, "says", "(II)I"⟩
abbrev cX8_dark : ByteArray := prog_1_method_16_code
def yX8_dark : MethodName := ⟨RX8, "dark", "(I)I"⟩
abbrev cX8_when : ByteArray := prog_1_method_17_code
def yX8_when : MethodName := ⟨RX8, "when", "(IIII)I"⟩
abbrev cX8_misread : ByteArray := prog_1_method_18_code
def yX8_misread : MethodName := ⟨RX8, "misread", "(IIII)I"⟩
abbrev cX8_bargain : ByteArray := prog_1_method_19_code
def yX8_bargain : MethodName := ⟨RX8, "bargain", "(IIIIII)I"⟩
abbrev cX8_share : ByteArray := prog_1_method_20_code
def yX8_share : MethodName := ⟨RX8, "share", "(IIII)I"⟩
abbrev cX8_ground : ByteArray := prog_1_method_21_code
def yX8_ground : MethodName := ⟨RX8, "ground", "(II)I"⟩
abbrev cX8_fewest : ByteArray := prog_1_method_22_code
def yX8_fewest : MethodName := ⟨RX8, "fewest", "(III)I"⟩
abbrev cX8_aside : ByteArray := prog_1_method_23_code
def yX8_aside : MethodName := ⟨RX8, "aside", "(IIII)I"⟩
abbrev cX8_meant : ByteArray := prog_1_method_24_code
def yX8_meant : MethodName := ⟨RX8, "meant", "(III)I"⟩
abbrev cX8_stood : ByteArray := prog_1_method_25_code
def yX8_stood : MethodName := ⟨RX8, "stood", "(I)I"⟩
abbrev cX8_stall : ByteArray := prog_1_method_26_code
def yX8_stall : MethodName := ⟨RX8, "stall", "(II)I"⟩
abbrev cX8_market : ByteArray := prog_1_method_27_code
def yX8_market : MethodName := ⟨RX8, "market", "(IIII)I"⟩
abbrev cX8_clear : ByteArray := prog_1_method_28_code
def yX8_clear : MethodName := ⟨RX8, "clear", "()I"⟩
abbrev cX8_image : ByteArray := prog_1_method_29_code
def yX8_image : MethodName := ⟨RX8, "image", "()I"⟩
abbrev cX8_restore : ByteArray := prog_1_method_30_code
def yX8_restore : MethodName := ⟨RX8, "restore", "()I"⟩
abbrev cX8_clears : ByteArray := prog_1_method_31_code
def yX8_clears : MethodName := ⟨RX8, "clears", "(IIIII)I"⟩
abbrev cX8_sheet : ByteArray := prog_1_method_32_code
def yX8_sheet : MethodName := ⟨RX8, "sheet", "(III)I"⟩
abbrev cX8_drop : ByteArray := prog_1_method_33_code
def yX8_drop : MethodName := ⟨RX8, "drop", "(I)I"⟩
abbrev cX8_item : ByteArray := prog_1_method_34_code
def yX8_item : MethodName := ⟨RX8, "item", "(IIIJ)I"⟩
abbrev cX8_copy : ByteArray := prog_1_method_35_code
def yX8_copy : MethodName := ⟨RX8, "copy", "(IIIII)I"⟩
abbrev cX8_isPoint : ByteArray := prog_1_method_36_code
def yX8_isPoint : MethodName := ⟨RX8, "isPoint", "(II)Z"⟩
abbrev cX8_isArm : ByteArray := prog_1_method_37_code
def yX8_isArm : MethodName := ⟨RX8, "isArm", "(JJ)Z"⟩
abbrev cX8_isTick : ByteArray := prog_1_method_38_code
def yX8_isTick : MethodName := ⟨RX8, "isTick", "(I)Z"⟩
abbrev cX8_isLane : ByteArray := prog_1_method_39_code
def yX8_isLane : MethodName := ⟨RX8, "isLane", "(I)Z"⟩
abbrev cX8_isOne : ByteArray := prog_1_method_40_code
def yX8_isOne : MethodName := ⟨RX8, "isOne", "(I)Z"⟩
abbrev cX8_isSet : ByteArray := prog_1_method_41_code
def yX8_isSet : MethodName := ⟨RX8, "isSet", "(I)Z"⟩
abbrev cX8_areTwo : ByteArray := prog_1_method_42_code
def yX8_areTwo : MethodName := ⟨RX8, "areTwo", "(II)Z"⟩
abbrev cX8_sheetOf : ByteArray := prog_1_method_43_code
def yX8_sheetOf : MethodName := ⟨RX8, "sheetOf", "(I)LPointingArms$Sheet;"⟩
abbrev cX8_fits : ByteArray := prog_1_method_44_code
def yX8_fits : MethodName := ⟨RX8, "fits", "(II)Z"⟩
abbrev cX8_addThing : ByteArray := prog_1_method_45_code
def yX8_addThing : MethodName := ⟨RX8, "addThing", "(LPointingArms$Field;III)I"⟩
abbrev cX8_addPoint : ByteArray := prog_1_method_46_code
def yX8_addPoint : MethodName := ⟨RX8, "addPoint", "(LPointingArms$Rows;II)I"⟩
abbrev cX8_metBy : ByteArray := prog_1_method_47_code
def yX8_metBy : MethodName := ⟨RX8, "metBy", "(IIII)I"⟩
abbrev cX8_meaningOf : ByteArray := prog_1_method_48_code
def yX8_meaningOf : MethodName := ⟨RX8, "meaningOf", "(IIII)I"⟩
abbrev cX8_meaningOfSentence : ByteArray := prog_1_method_49_code
def yX8_meaningOfSentence : MethodName := ⟨RX8, "meaningOfSentence", "(II)I"⟩
abbrev cX8_asideAt : ByteArray := prog_1_method_50_code
def yX8_asideAt : MethodName := ⟨RX8, "asideAt", "(IIIII)I"⟩
abbrev cX8_couldStand : ByteArray := prog_1_method_51_code
def yX8_couldStand : MethodName := ⟨RX8, "couldStand", "(II)Z"⟩
abbrev cX8_readThing : ByteArray := prog_1_method_52_code
def yX8_readThing : MethodName := ⟨RX8, "readThing", "()V"⟩
abbrev cX8_readSentence : ByteArray := prog_1_method_53_code
def yX8_readSentence : MethodName := ⟨RX8, "readSentence", "(I)V"⟩
abbrev cX8_readArm : ByteArray := prog_1_method_54_code
def yX8_readArm : MethodName := ⟨RX8, "readArm", "(I)V"⟩
def RX9 : String := "PointingArmsModel"
def TX9 : u_T := fun k => match k with
  | 0 => ("PointingArmsModel", "fans", "I", false)
  | 1 => ("PointingArmsModel", "fan", "[I", true)
  | 2 => ("PointingArmsModel", "things", "I", false)
  | 3 => ("PointingArmsModel", "parts", "[I", true)
  | 4 => ("PointingArmsModel", "people", "I", false)
  | 5 => ("PointingArmsModel", "xs", "[I", true)
  | 6 => ("PointingArmsModel", "ys", "[I", true)
  | 7 => ("PointingArmsModel", "laws", "[I", true)
  | 8 => ("PointingArmsModel", "sentences", "I", false)
  | 9 => ("PointingArmsModel", "arms", "[I", true)
  | 10 => ("PointingArmsModel", "talk", "[I", true)
  | 11 => ("PointingArmsModel", "stalls", "I", false)
  | 12 => ("PointingArmsModel", "stallX", "[I", true)
  | 13 => ("PointingArmsModel", "stallY", "[I", true)
  | 14 => ("PointingArmsModel", "told", "I", false)
  | 15 => ("PointingArmsModel", "tolds", "[I", true)
  | 16 => ("PointingArmsModel", "tape", "[I", true)
  | 17 => ("PointingArmsModel", "taped", "I", false)
  | 18 => ("PointingArmsModel", "at", "I", false)
  | 19 => ("PointingArmsModel", "wrong", "Z", false)
  | 20 => ("PointingArmsModel", "read", "[I", true)
  | 21 => ("PointingArmsModel", "readArms", "[I", true)
  | 22 => ("PointingArmsModel", "some", "[I", true)
  | 23 => ("PointingArmsModel", "few", "[I", true)
  | 24 => ("PointingArmsModel", "laid", "[I", true)
  | 25 => ("PointingArmsModel", "image", "[I", true)
  | 26 => ("PointingArmsModel", "isImage", "Z", false)
  | 27 => ("PointingArmsModel", "lanes", "[I", true)
  | 28 => ("PointingArmsModel", "sizes", "[I", true)
  | 29 => ("PointingArmsModel", "items", "[J", true)
  | _ => ("PointingArmsModel", "moved", "[J", true)
def tyX9 : Nat → FieldType := fun k => match k with
  | 0 => .int
  | 1 => .array .int
  | 2 => .int
  | 3 => .array .int
  | 4 => .int
  | 5 => .array .int
  | 6 => .array .int
  | 7 => .array .int
  | 8 => .int
  | 9 => .array .int
  | 10 => .array .int
  | 11 => .int
  | 12 => .array .int
  | 13 => .array .int
  | 14 => .int
  | 15 => .array .int
  | 16 => .array .int
  | 17 => .int
  | 18 => .int
  | 19 => .boolean
  | 20 => .array .int
  | 21 => .array .int
  | 22 => .array .int
  | 23 => .array .int
  | 24 => .array .int
  | 25 => .array .int
  | 26 => .boolean
  | 27 => .array .int
  | 28 => .array .int
  | 29 => .array .long
  | _ => .array .long
abbrev wsX90 : List Cond := u_ws RX9 TX9 31
theorem nmX9 : ∀ a, a < 31 → ∀ b, b < 31 → a ≠ b → (TX9 a).2.1 ≠ (TX9 b).2.1 := by decide +kernel
theorem tyX9_ok : ∀ k, k < 31 → parseFieldDescriptor (TX9 k).2.2.1 = some (tyX9 k) := by decide +kernel
abbrev cX9_in : ByteArray := prog_11_method_2_code
def yX9_in : MethodName := ⟨RX9, "in", "(JJJ)Z"⟩
abbrev cX9_init : ByteArray := prog_11_method_3_code
def yX9_init : MethodName := ⟨RX9, "<init>", "()V"⟩
abbrev cX9_isFan : ByteArray := prog_11_method_4_code
def yX9_isFan : MethodName := ⟨RX9, "isFan", "(II)Z"⟩
abbrev cX9_isPoint : ByteArray := prog_11_method_5_code
def yX9_isPoint : MethodName := ⟨RX9, "isPoint", "(II)Z"⟩
abbrev cX9_isThing : ByteArray := prog_11_method_6_code
def yX9_isThing : MethodName := ⟨RX9, "isThing", "(I)Z"⟩
abbrev cX9_isOne : ByteArray := prog_11_method_7_code
def yX9_isOne : MethodName := ⟨RX9, "isOne", "(I)Z"⟩
abbrev cX9_isArm : ByteArray := prog_11_method_8_code
def yX9_isArm : MethodName := ⟨RX9, "isArm", "(JJ)Z"⟩
abbrev cX9_isTick : ByteArray := prog_11_method_9_code
def yX9_isTick : MethodName := ⟨RX9, "isTick", "(I)Z"⟩
abbrev cX9_comes : ByteArray := prog_11_method_10_code
def yX9_comes : MethodName := ⟨RX9, "comes", "(IIII)V"⟩
abbrev cX9_thing : ByteArray := prog_11_method_11_code
def yX9_thing : MethodName := ⟨RX9, "thing", "(III)I"⟩
abbrev cX9_make : ByteArray := prog_11_method_12_code
def yX9_make : MethodName := ⟨RX9, "make", "(III)I"⟩
abbrev cX9_middle : ByteArray := prog_11_method_13_code
def yX9_middle : MethodName := ⟨RX9, "middle", "(III)I"⟩
abbrev cX9_at : ByteArray := prog_11_method_14_code
def yX9_at : MethodName := ⟨RX9, "at", "(III)I"⟩
abbrev cX9_person : ByteArray := prog_11_method_15_code
def yX9_person : MethodName := ⟨RX9, "person", "(II)I"⟩
abbrev cX9_walk : ByteArray := prog_11_method_16_code
def yX9_walk : MethodName := ⟨RX9, "walk", "(III)I"⟩
abbrev cX9_rule : ByteArray := prog_11_method_17_code
def yX9_rule : MethodName := ⟨RX9, "rule", "(II)I"⟩
abbrev cX9_type : ByteArray := prog_11_method_18_code
def yX9_type : MethodName := ⟨RX9, "type", "(JI)I"⟩
abbrev cX9_here : ByteArray := prog_11_method_19_code
def yX9_here : MethodName := ⟨RX9, "here", "()I"⟩
abbrev cX9_has : ByteArray := prog_11_method_20_code
def yX9_has : MethodName := ⟨RX9, "has", "(I)Z"⟩
abbrev cX9_number : ByteArray := prog_11_method_21_code
def yX9_number : MethodName := ⟨RX9, "number", "()I"⟩
abbrev cX9_digit : ByteArray := prog_11_method_22_code
def yX9_digit : MethodName := ⟨RX9, "digit", "(I)I"⟩
abbrev cX9_comma : ByteArray := prog_11_method_23_code
def yX9_comma : MethodName := ⟨RX9, "comma", "()V"⟩
abbrev cX9_signed : ByteArray := prog_11_method_24_code
def yX9_signed : MethodName := ⟨RX9, "signed", "()I"⟩
abbrev cX9_things : ByteArray := prog_11_method_25_code
def yX9_things : MethodName := ⟨RX9, "things", "()I"⟩
abbrev cX9_arm : ByteArray := prog_11_method_26_code
def yX9_arm : MethodName := ⟨RX9, "arm", "(I)V"⟩
abbrev cX9_talk : ByteArray := prog_11_method_27_code
def yX9_talk : MethodName := ⟨RX9, "talk", "()I"⟩
abbrev cX9_count : ByteArray := prog_11_method_28_code
def yX9_count : MethodName := ⟨RX9, "count", "(I)I"⟩
abbrev cX9_isMet : ByteArray := prog_11_method_29_code
def yX9_isMet : MethodName := ⟨RX9, "isMet", "(IIIIIII)Z"⟩
abbrev cX9_meetsAt : ByteArray := prog_11_method_30_code
def yX9_meetsAt : MethodName := ⟨RX9, "meetsAt", "(IIIII)I"⟩
abbrev cX9_ahead : ByteArray := prog_11_method_31_code
def yX9_ahead : MethodName := ⟨RX9, "ahead", "(IIIIII)I"⟩
abbrev cX9_meansAt : ByteArray := prog_11_method_32_code
def yX9_meansAt : MethodName := ⟨RX9, "meansAt", "(IIIII)I"⟩
abbrev cX9_meets : ByteArray := prog_11_method_33_code
def yX9_meets : MethodName := ⟨RX9, "meets", "(IIII)I"⟩
abbrev cX9_means : ByteArray := prog_11_method_34_code
def yX9_means : MethodName := ⟨RX9, "means", "(IIII)I"⟩
abbrev cX9_both : ByteArray := prog_11_method_35_code
def yX9_both : MethodName := ⟨RX9, "both", "(IIIIII)I"⟩
abbrev cX9_saysAt : ByteArray := prog_11_method_36_code
def yX9_saysAt : MethodName := ⟨RX9, "saysAt", "(II)I"⟩
abbrev cX9_says : ByteArray := prog_11_method_37_code
def yX9_says : MethodName := ⟨RX9, "says", "(II)I"⟩
abbrev cX9_isSingle : ByteArray := prog_11_method_38_code
def yX9_isSingle : MethodName := ⟨RX9, "isSingle", "(I)Z"⟩
abbrev cX9_dark : ByteArray := prog_11_method_39_code
def yX9_dark : MethodName := ⟨RX9, "dark", "(I)I"⟩
abbrev cX9_when : ByteArray := prog_11_method_40_code
def yX9_when : MethodName := ⟨RX9, "when", "(IIII)I"⟩
abbrev cX9_misread : ByteArray := prog_11_method_41_code
def yX9_misread : MethodName := ⟨RX9, "misread", "(IIII)I"⟩
abbrev cX9_which : ByteArray := prog_11_method_42_code
def yX9_which : MethodName := ⟨RX9, "which", "(I)I"⟩
abbrev cX9_bargain : ByteArray := prog_11_method_43_code
def yX9_bargain : MethodName := ⟨RX9, "bargain", "(IIIIII)I"⟩
abbrev cX9_aloneBy : ByteArray := prog_11_method_44_code
def yX9_aloneBy : MethodName := ⟨RX9, "aloneBy", "(III)I"⟩
abbrev cX9_share : ByteArray := prog_11_method_45_code
def yX9_share : MethodName := ⟨RX9, "share", "(IIII)I"⟩
abbrev cX9_ground : ByteArray := prog_11_method_46_code
def yX9_ground : MethodName := ⟨RX9, "ground", "(II)I"⟩
abbrev cX9_fewestOf : ByteArray := prog_11_method_47_code
def yX9_fewestOf : MethodName := ⟨RX9, "fewestOf", "(III)I"⟩
abbrev cX9_isSet : ByteArray := prog_11_method_48_code
def yX9_isSet : MethodName := ⟨RX9, "isSet", "(I)Z"⟩
abbrev cX9_fewest : ByteArray := prog_11_method_49_code
def yX9_fewest : MethodName := ⟨RX9, "fewest", "(III)I"⟩
abbrev cX9_size : ByteArray := prog_11_method_50_code
def yX9_size : MethodName := ⟨RX9, "size", "(I)I"⟩
abbrev cX9_aside : ByteArray := prog_11_method_51_code
def yX9_aside : MethodName := ⟨RX9, "aside", "(IIII)I"⟩
abbrev cX9_meant : ByteArray := prog_11_method_52_code
def yX9_meant : MethodName := ⟨RX9, "meant", "(III)I"⟩
abbrev cX9_stood : ByteArray := prog_11_method_53_code
def yX9_stood : MethodName := ⟨RX9, "stood", "(I)I"⟩
abbrev cX9_stall : ByteArray := prog_11_method_54_code
def yX9_stall : MethodName := ⟨RX9, "stall", "(II)I"⟩
abbrev cX9_metOn : ByteArray := prog_11_method_55_code
def yX9_metOn : MethodName := ⟨RX9, "metOn", "(IIIII)I"⟩
abbrev cX9_isClear : ByteArray := prog_11_method_56_code
def yX9_isClear : MethodName := ⟨RX9, "isClear", "(III)Z"⟩
abbrev cX9_lays : ByteArray := prog_11_method_57_code
def yX9_lays : MethodName := ⟨RX9, "lays", "(II)Z"⟩
abbrev cX9_market : ByteArray := prog_11_method_58_code
def yX9_market : MethodName := ⟨RX9, "market", "(IIII)I"⟩
abbrev cX9_clear : ByteArray := prog_11_method_59_code
def yX9_clear : MethodName := ⟨RX9, "clear", "()I"⟩
abbrev cX9_lay : ByteArray := prog_11_method_60_code
def yX9_lay : MethodName := ⟨RX9, "lay", "([II)I"⟩
abbrev cX9_gives : ByteArray := prog_11_method_61_code
def yX9_gives : MethodName := ⟨RX9, "gives", "(I[I)I"⟩
abbrev cX9_image : ByteArray := prog_11_method_62_code
def yX9_image : MethodName := ⟨RX9, "image", "()I"⟩
abbrev cX9_restore : ByteArray := prog_11_method_63_code
def yX9_restore : MethodName := ⟨RX9, "restore", "()I"⟩
abbrev cX9_isSheet : ByteArray := prog_11_method_64_code
def yX9_isSheet : MethodName := ⟨RX9, "isSheet", "(I)Z"⟩
abbrev cX9_isLane : ByteArray := prog_11_method_65_code
def yX9_isLane : MethodName := ⟨RX9, "isLane", "(I)Z"⟩
abbrev cX9_finds : ByteArray := prog_11_method_66_code
def yX9_finds : MethodName := ⟨RX9, "finds", "(IIII)I"⟩
abbrev cX9_clears : ByteArray := prog_11_method_67_code
def yX9_clears : MethodName := ⟨RX9, "clears", "(IIIII)I"⟩
abbrev cX9_sheet : ByteArray := prog_11_method_68_code
def yX9_sheet : MethodName := ⟨RX9, "sheet", "(III)I"⟩
abbrev cX9_drop : ByteArray := prog_11_method_69_code
def yX9_drop : MethodName := ⟨RX9, "drop", "(I)I"⟩
abbrev cX9_item : ByteArray := prog_11_method_70_code
def yX9_item : MethodName := ⟨RX9, "item", "(IIIJ)I"⟩
abbrev cX9_copy : ByteArray := prog_11_method_71_code
def yX9_copy : MethodName := ⟨RX9, "copy", "(IIIII)I"⟩
def RJ6 : String := "java/lang/Integer"
def TJ6 : u_T := fun k => match k with
  | _ => ("", "", "", false)
def tyJ6 : Nat → FieldType := fun k => match k with
  | _ => .int
abbrev wsJ60 : List Cond := u_ws RJ6 TJ6 0
theorem nmJ6 : ∀ a, a < 0 → ∀ b, b < 0 → a ≠ b → (TJ6 a).2.1 ≠ (TJ6 b).2.1 := by decide +kernel
theorem tyJ6_ok : ∀ k, k < 0 → parseFieldDescriptor (TJ6 k).2.2.1 = some (tyJ6 k) := by decide +kernel
abbrev cJ6_numberOfTrailingZeros_0f7a4 : ByteArray := prog_12_method_48_code
def yJ6_numberOfTrailingZeros_0f7a4 : MethodName := ⟨RJ6, "numberOfTrailingZeros", "(I)I"⟩
abbrev cJ6_bitCount_0f7a4 : ByteArray := prog_12_method_49_code
def yJ6_bitCount_0f7a4 : MethodName := ⟨RJ6, "bitCount", "(I)I"⟩
def RJ9 : String := "java/lang/Math"
def TJ9 : u_T := fun k => match k with
  | _ => ("", "", "", false)
def tyJ9 : Nat → FieldType := fun k => match k with
  | _ => .int
abbrev wsJ90 : List Cond := u_ws RJ9 TJ9 0
theorem nmJ9 : ∀ a, a < 0 → ∀ b, b < 0 → a ≠ b → (TJ9 a).2.1 ≠ (TJ9 b).2.1 := by decide +kernel
theorem tyJ9_ok : ∀ k, k < 0 → parseFieldDescriptor (TJ9 k).2.2.1 = some (tyJ9 k) := by decide +kernel
abbrev cJ9_abs_0f7a4 : ByteArray := prog_13_method_59_code
def yJ9_abs_0f7a4 : MethodName := ⟨RJ9, "abs", "(I)I"⟩
abbrev cJ9_min_7cf53 : ByteArray := prog_13_method_69_code
def yJ9_min_7cf53 : MethodName := ⟨RJ9, "min", "(II)I"⟩
def RJ10 : String := "java/lang/System"
def TJ10 : u_T := fun k => match k with
  | _ => ("", "", "", false)
def tyJ10 : Nat → FieldType := fun k => match k with
  | _ => .int
abbrev wsJ100 : List Cond := u_ws RJ10 TJ10 0
theorem nmJ10 : ∀ a, a < 0 → ∀ b, b < 0 → a ≠ b → (TJ10 a).2.1 ≠ (TJ10 b).2.1 := by decide +kernel
theorem tyJ10_ok : ∀ k, k < 0 → parseFieldDescriptor (TJ10 k).2.2.1 = some (tyJ10 k) := by decide +kernel
def RL : String := "PointingArmsLaw"
abbrev cL_law : ByteArray := code
def yL_law : MethodName := ⟨RL, "law", "([I)Z"⟩
abbrev vwCl : List vw_C := [(RX0, TX0, 3), (RX1, TX1, 2), (RX2, TX2, 6), (RX3, TX3, 3), (RX4, TX4, 4), (RX5, TX5, 5), (RX6, TX6, 3), (RX7, TX7, 4), (RX8, TX8, 10), (RX9, TX9, 31)]
def gNest : List (String × Nat × MethodName × String) := [("PointingArms", 18, ⟨"PointingArms$Scene", "<init>", "()V"⟩, "PointingArms"), ("PointingArms", 28, ⟨"PointingArms$Tape", "<init>", "()V"⟩, "PointingArms"), ("PointingArms", 51, ⟨"PointingArms$Cover", "<init>", "()V"⟩, "PointingArms"), ("PointingArms", 58, ⟨"PointingArms$Layout", "<init>", "()V"⟩, "PointingArms"), ("PointingArms", 69, ⟨"PointingArms$Sheet", "<init>", "()V"⟩, "PointingArms"), ("PointingArms$Layout", 73, ⟨"PointingArms", "addThing", "(LPointingArms$Field;III)I"⟩, "PointingArms")]
end
section
/-! The Go layer: a world whose references are place numbers, states of a frame over it, and 'in any machine that holds this state the run comes to an exit state'. -/
abbrev gE : Type := (Nat × vp_A) ⊕ (Nat × List Value)
abbrev gW : Type := List (Nat × gE)
abbrev gM : Type := MethodName × ByteArray × Nat × Option FieldType
abbrev gS : Type := Nat × List (Nat × Value) × List Value × gW
def gv (ad : Nat → Nat) : Value → Value
  | .ref k => .ref (ad k)
  | v => v
def gA (ad : Nat → Nat) : vp_A → vp_A
  | (n, .inr (.inr (.inr (.inr f)))) => (n, .inr (.inr (.inr (.inr (fun i => (f i).map ad)))))
  | a => a
def gC (ad : Nat → Nat) (cA : Nat → ClassId) : gE → va_E
  | .inl (t, a) => .inl (cA t, gA ad a)
  | .inr (ci, vs) => .inr (ci, vs.map (gv ad))
def gq (ad : Nat → Nat) (cA : Nat → ClassId) (q : Nat × gE) : Nat × va_E := (ad q.1, gC ad cA q.2)
def gw (ad : Nat → Nat) (cA : Nat → ClassId) (w : gW) : va_W := w.map (gq ad cA)
def gl (ad : Nat → Nat) (q : Nat × Value) : Nat × Value := (q.1, gv ad q.2)
def gT (cA : Nat → ClassId) : List (ClassId × FieldType) := [(cA 0, .int), (cA 1, .long), (cA 2, .object RX6)]
def gTB : List Cond := lw_tbl.filter goodWord
def gN (s : State) : Prop := ∀ q ∈ gNest, va_Nw (.methodLinkNest q.1 q.2.1 q.2.2.1 q.2.2.2) s
def gws (M : gM) : List Cond := .code M.1 M.2.1 M.2.2.1 M.2.2.2 :: gTB
def gX (M : gM) (p : Program) (s : State) (m : MethodId) (args : Array Value) (meth : Method) (c : Code) : Prop :=
  p.tables.exec = Jvm.exec ∧ c.code = M.2.1 ∧ meth.sig.returnType = M.2.2.2 ∧ c.maxLocals = M.2.2.1 ∧ s.vm.findClass M.1.cls = some m.cls ∧ (∀ w ∈ gTB, w.before args s = true) ∧ meth.locks = false ∧ gN s
def gIn (M : gM) (D : va_G) (ad : Nat → Nat) (cA : Nat → ClassId) (A : Nat → Prop) (H0 H : Heap) (locs : List Loc) (s : State) (ls : Array Slot) (lv : List (Nat × Value)) (w : gW) : Prop :=
  va_K D vwCl (gT cA) s ∧ va_P D vwCl (gw ad cA w) H ∧ va_D A (gw ad cA w) ∧ va_S A H0 H locs ∧ lv_has ls M.2.2.1 (lv.map (gl ad))
def Go (M : gM) (R : Room) (E : gS → Prop) (x : gS) : Prop :=
  ∀ (p : Program) (l : Launch) (e : Env) (s : State) (m : MethodId) (args : Array Value) (below : List Frame) (meth : Method) (c : Code) (D : va_G) (ad : Nat → Nat) (cA : Nat → ClassId) (A : Nat → Prop) (H0 : Heap) (cl sl : Nat) (Qf : State → Prop),
    gX M p s m args meth c → cl ≤ R.cells → sl ≤ R.slots → (∀ q : Nat, H0.size ≤ q → A q) →
    (∀ (y : gS) (H : Heap) (locs : List Loc) (ls : Array Slot), E y → gIn M D ad cA A H0 H locs s ls y.2.1 y.2.2.2 → W p l e R s m args below meth c H locs cl sl Qf (F0 m y.1 ls (y.2.2.1.map (gv ad)))) →
    ∀ (H : Heap) (locs : List Loc) (ls : Array Slot), gIn M D ad cA A H0 H locs s ls x.2.1 x.2.2.2 → W p l e R s m args below meth c H locs cl sl Qf (F0 m x.1 ls (x.2.2.1.map (gv ad)))
theorem gw_at {ad : Nat → Nat} {cA : Nat → ClassId} {w : gW} {k j : Nat} {e : gE} (h : w[k]? = some (j, e)) : (gw ad cA w)[k]? = some (ad j, gC ad cA e) := by
  unfold gw
  rw [List.getElem?_map, h]
  rfl
theorem gw_set {ad : Nat → Nat} {cA : Nat → ClassId} {w : gW} {k j : Nat} {e : gE} : gw ad cA (w.set k (j, e)) = (gw ad cA w).set k (ad j, gC ad cA e) := by
  unfold gw
  rw [List.map_set]
  rfl
theorem gv_cat (ad : Nat → Nat) (v : Value) : (gv ad v).category = v.category := by
  cases v <;> rfl
theorem gl_filter1 (ad : Nat → Nat) (i : Nat) (lv : List (Nat × Value)) : (lv.map (gl ad)).filter (fun q => !(q.1 == i) && !(q.1 + 1 == i && q.2.category == 2)) = (lv.filter (fun q => !(q.1 == i) && !(q.1 + 1 == i && q.2.category == 2))).map (gl ad) := by
  rw [List.filter_map]
  congr 1
  apply List.filter_congr
  intro q _
  simp [gl, gv_cat]
theorem gl_filter2 (ad : Nat → Nat) (i : Nat) (lv : List (Nat × Value)) : (lv.map (gl ad)).filter (fun q => !(q.1 == i) && (!(q.1 == i + 1) && !(q.1 + 1 == i && q.2.category == 2))) = (lv.filter (fun q => !(q.1 == i) && (!(q.1 == i + 1) && !(q.1 + 1 == i && q.2.category == 2)))).map (gl ad) := by
  rw [List.filter_map]
  congr 1
  apply List.filter_congr
  intro q _
  simp [gl, gv_cat]
/-- the local at a number -/
def gget : List (Nat × Value) → Nat → Option Value
  | [], _ => none
  | (j, v) :: t, i => bif j == i then some v else gget t i
def gset1 (lv : List (Nat × Value)) (i : Nat) (v : Value) : List (Nat × Value) := (i, v) :: lv.filter (fun q => !(q.1 == i) && !(q.1 + 1 == i && q.2.category == 2))
def gset2 (lv : List (Nat × Value)) (i : Nat) (v : Value) : List (Nat × Value) := (i, v) :: lv.filter (fun q => !(q.1 == i) && (!(q.1 == i + 1) && !(q.1 + 1 == i && q.2.category == 2)))
theorem gget_mem : ∀ {lv : List (Nat × Value)} {i : Nat} {v : Value}, gget lv i = some v → ∃ k : Nat, lv[k]? = some (i, v)
  | [], i, v, h => by cases h
  | (j, u) :: t, i, v, h => by
    unfold gget at h
    by_cases hj : j = i
    · subst hj
      simp at h
      subst h
      exact ⟨0, rfl⟩
    · have : (j == i) = false := by simpa using hj
      rw [this] at h
      obtain ⟨k, hk⟩ := gget_mem (by simpa using h)
      exact ⟨k + 1, hk⟩
theorem gget_at {ad : Nat → Nat} {ls : Array Slot} {nL : Nat} {lv : List (Nat × Value)} {i : Nat} {v : Value} (hl : lv_has ls nL (lv.map (gl ad))) (h : gget lv i = some v) : ls[i]? = some (.val (gv ad v)) := by
  obtain ⟨k, hk⟩ := gget_mem h
  exact lv_at hl k (by rw [List.getElem?_map, hk]; rfl)
/-- a cell by its place number: where it stands in the list, and what it is -/
def gfind : gW → Nat → Nat → Option (Nat × gE)
  | [], _, _ => none
  | (j, e) :: t, k, i => bif j == k then some (i, e) else gfind t k (i + 1)
theorem gfind_spec : ∀ {w : gW} {k i n : Nat} {e : gE}, gfind w k i = some (n, e) → ∃ d : Nat, n = i + d ∧ w[d]? = some (k, e)
  | [], k, i, n, e, h => by cases h
  | (j, e0) :: t, k, i, n, e, h => by
    unfold gfind at h
    by_cases hj : j = k
    · subst hj
      simp at h
      obtain ⟨rfl, rfl⟩ := h
      exact ⟨0, rfl, rfl⟩
    · have : (j == k) = false := by simpa using hj
      rw [this] at h
      obtain ⟨d, rfl, hd⟩ := gfind_spec (by simpa using h)
      exact ⟨d + 1, by omega, hd⟩
theorem gfind_at {w : gW} {k n : Nat} {e : gE} (h : gfind w k 0 = some (n, e)) : w[n]? = some (k, e) := by
  obtain ⟨d, rfl, hd⟩ := gfind_spec h
  simpa using hd
section GoRules
variable {M : gM} {R : Room} {E : gS → Prop} {pc : Nat} {lv : List (Nat × Value)} {st : List Value} {w : gW}
theorem Go.exit {x : gS} (h : E x) : Go M R E x := by
  intro p l e s m args below meth c D ad cA A H0 cl sl Qf X hc hs hA kE H locs ls hI
  exact kE x H locs ls h hI
theorem Go.trans {E1 : gS → Prop} {x : gS} (h : Go M R E1 x) (k : ∀ y, E1 y → Go M R E y) : Go M R E x := by
  intro p l e s m args below meth c D ad cA A H0 cl sl Qf X hc hs hA kE H locs ls hI
  exact h p l e s m args below meth c D ad cA A H0 cl sl Qf X hc hs hA (fun y H1 locs1 ls1 hy hI1 => k y hy p l e s m args below meth c D ad cA A H0 cl sl Qf X hc hs hA kE H1 locs1 ls1 hI1) H locs ls hI
/-- an instruction that changes the operand stack alone -/
theorem Go.stk {pc' : Nat} {st' : List Value} (hstep : ∀ (p : Program) (l : Launch) (e : Env) (s : State) (m : MethodId) (args : Array Value) (below : List Frame) (meth : Method) (c : Code) (ad : Nat → Nat) (cl sl : Nat) (Qf : State → Prop) (H : Heap) (locs : List Loc) (ls : Array Slot), gX M p s m args meth c → lv_has ls M.2.2.1 (lv.map (gl ad)) → W p l e R s m args below meth c H locs cl sl Qf (F0 m pc' ls (st'.map (gv ad))) → W p l e R s m args below meth c H locs cl sl Qf (F0 m pc ls (st.map (gv ad)))) (k : Go M R E (pc', lv, st', w)) : Go M R E (pc, lv, st, w) := by
  intro p l e s m args below meth c D ad cA A H0 cl sl Qf X hc hs hA kE H locs ls hI
  exact hstep p l e s m args below meth c ad cl sl Qf H locs ls X hI.2.2.2.2 (k p l e s m args below meth c D ad cA A H0 cl sl Qf X hc hs hA kE H locs ls hI)
end GoRules
end
section
/-! One instruction over a state, as a function, and its soundness. -/
def gAll : List Prop → Prop
  | [] => True
  | c :: t => c ∧ gAll t
/-- what the pools of a class say: fields (pool index, class number of the object, field number), int constants, long constants -/
abbrev gI : Type := List (Nat × Nat × Nat) × List (Nat × Int32) × List (Nat × Int64)
def gFok (own : String) (q : Nat × Nat × Nat) : Prop := ∃ (C : String) (T : u_T) (N : Nat) (ref : String) (ty : Nat → FieldType), vwCl[q.2.1]? = some (C, T, N) ∧ q.2.2 < N ∧ Cond.fieldLink own q.1 ref (T q.2.2).2.1 (T q.2.2).2.2.1 ∈ gTB ∧ (ref = (T q.2.2).1 ∨ Cond.sameField ref (T q.2.2).1 (T q.2.2).2.1 (T q.2.2).2.2.1 ∈ gTB) ∧ (∀ w ∈ u_ws C T N, w ∈ gTB) ∧ (∀ k, k < N → parseFieldDescriptor (T k).2.2.1 = some (ty k)) ∧ (∀ a, a < N → ∀ b, b < N → a ≠ b → (T a).2.1 ≠ (T b).2.1)
def gIok (own : String) (I : gI) : Prop := (∀ q ∈ I.1, gFok own q) ∧ (∀ q ∈ I.2.1, Cond.constant own q.1 q.2 ∈ gTB) ∧ (∀ q ∈ I.2.2, Cond.constantLong own q.1 q.2 ∈ gTB)
def gfk : List (Nat × Nat × Nat) → Nat → Nat → Option Nat
  | [], _, _ => none
  | (i, ci, k) :: t, j, cj => bif i == j && ci == cj then some k else gfk t j cj
theorem gfk_mem : ∀ {l : List (Nat × Nat × Nat)} {j cj k : Nat}, gfk l j cj = some k → (j, cj, k) ∈ l
  | [], j, cj, k, h => by cases h
  | (i, ci, k0) :: t, j, cj, k, h => by
    unfold gfk at h
    by_cases hb : (i == j && ci == cj) = true
    · rw [hb] at h
      simp at hb h
      obtain ⟨rfl, rfl⟩ := hb
      subst h
      exact List.mem_cons_self
    · have hb : (i == j && ci == cj) = false := by simpa using hb
      rw [hb] at h
      exact List.mem_cons_of_mem _ (gfk_mem (by simpa using h))
def gck {α : Type} : List (Nat × α) → Nat → Option α
  | [], _ => none
  | (i, v) :: t, j => bif i == j then some v else gck t j
theorem gck_mem {α : Type} : ∀ {l : List (Nat × α)} {j : Nat} {v : α}, gck l j = some v → (j, v) ∈ l
  | [], j, v, h => by cases h
  | (i, u) :: t, j, v, h => by
    unfold gck at h
    by_cases hb : i = j
    · subst hb
      simp at h
      subst h
      exact List.mem_cons_self
    · have hb : (i == j) = false := by simpa using hb
      rw [hb] at h
      exact List.mem_cons_of_mem _ (gck_mem (by simpa using h))
/-- may a field of this type take this value as it is -/
def gfits : FieldType → Value → Bool
  | .int, .int _ => true
  | .long, .long _ => true
  | .boolean, .int v => v == 0 || v == 1
  | .object _, .ref _ => true
  | .array _, .ref _ => true
  | .object _, .null => true
  | .array _, .null => true
  | _, _ => false
theorem gfits_spec {ty : FieldType} {v : Value} (ad : Nat → Nat) (h : gfits ty v = true) : narrow ty (gv ad v) = gv ad v ∧ fits ty (gv ad v) = true := by
  cases ty <;> cases v <;> simp [gfits] at h <;> first
    | exact ⟨rfl, rfl⟩
    | (rcases h with rfl | rfl <;> exact ⟨rfl, rfl⟩)
def glen : Instr → Nat
  | .bipush _ | .iload _ | .lload _ | .aload _ | .istore _ | .lstore _ | .astore _ | .ldc _ | .newarray _ => 2
  | .sipush _ | .iinc _ _ | .ldc2_w _ | .ldc_w _ | .getfield _ | .putfield _ | .goto _ | .ifCond _ _ | .if_icmp _ _ | .ifnull _ | .ifnonnull _ | .invokevirtual _ | .invokestatic _ | .invokespecial _ | .new _ | .anewarray _ => 3
  | _ => 1
def gbin : Instr → Option (Int32 → Int32 → Int32)
  | .iadd => some (fun x y => x + y)
  | .isub => some (fun x y => x - y)
  | .imul => some (fun x y => x * y)
  | .iand => some (fun x y => x &&& y)
  | .ior => some (fun x y => x ||| y)
  | .ixor => some (fun x y => x ^^^ y)
  | .ishl => some (fun x y => x <<< (y &&& 31))
  | .ishr => some (fun x y => x >>> (y &&& 31))
  | .iushr => some (fun x y => (x.toUInt32 >>> (y.toUInt32 &&& Int32.toUInt32 31)).toInt32)
  | _ => none
def glbin : Instr → Option (Int64 → Int64 → Int64)
  | .ladd => some (fun x y => x + y)
  | .lsub => some (fun x y => x - y)
  | .land => some (fun x y => x &&& y)
  | .lor => some (fun x y => x ||| y)
  | _ => none
def glsh : Instr → Option (Int64 → Int32 → Int64)
  | .lshl => some (fun x y => x <<< (y.toInt64 &&& 63))
  | .lshr => some (fun x y => x >>> (y.toInt64 &&& 63))
  | .lushr => some (fun x y => (x.toUInt64 >>> (y.toInt64.toUInt64 &&& Int64.toUInt64 63)).toInt64)
  | _ => none
section InsRules
variable {M : gM} {R : Room} {E : gS → Prop} {pc : Nat} {lv : List (Nat × Value)} {st : List Value} {w : gW}
theorem gx_bin {ins : Instr} {f : Int32 → Int32 → Int32} {a b : Int32} (h : gbin ins = some f) (hd : decode M.2.1 pc = .ok (ins, 1)) (k : Go M R E (pc + 1, lv, .int (f a b) :: st, w)) : Go M R E (pc, lv, .int b :: .int a :: st, w) := by
  refine Go.stk (fun p l e s m args below meth c ad cl sl Qf H locs ls X hl kk => ?_) k
  cases ins <;> simp only [gbin, Option.some.injEq, reduceCtorEq] at h <;> subst h
  · exact lv_iadd X.1 X.2.1 hd kk
  · exact lv_iand X.1 X.2.1 hd kk
  · exact lv_imul X.1 X.2.1 hd kk
  · exact lv_ior X.1 X.2.1 hd kk
  · exact lv_ishl X.1 X.2.1 hd kk
  · exact lv_ishr X.1 X.2.1 hd kk
  · exact lv_isub X.1 X.2.1 hd kk
  · exact lv_iushr X.1 X.2.1 hd rfl kk
  · exact lv_ixor X.1 X.2.1 hd kk
theorem gx_lbin {ins : Instr} {f : Int64 → Int64 → Int64} {a b : Int64} (h : glbin ins = some f) (hd : decode M.2.1 pc = .ok (ins, 1)) (k : Go M R E (pc + 1, lv, .long (f a b) :: st, w)) : Go M R E (pc, lv, .long b :: .long a :: st, w) := by
  refine Go.stk (fun p l e s m args below meth c ad cl sl Qf H locs ls X hl kk => ?_) k
  cases ins <;> simp only [glbin, Option.some.injEq, reduceCtorEq] at h <;> subst h
  · exact lv_ladd X.1 X.2.1 hd kk
  · exact lv_land X.1 X.2.1 hd kk
  · exact lv_lor X.1 X.2.1 hd kk
  · exact lv_lsub X.1 X.2.1 hd kk
theorem gx_lsh {ins : Instr} {f : Int64 → Int32 → Int64} {a : Int64} {b : Int32} (h : glsh ins = some f) (hd : decode M.2.1 pc = .ok (ins, 1)) (k : Go M R E (pc + 1, lv, .long (f a b) :: st, w)) : Go M R E (pc, lv, .int b :: .long a :: st, w) := by
  refine Go.stk (fun p l e s m args below meth c ad cl sl Qf H locs ls X hl kk => ?_) k
  cases ins <;> simp only [glsh, Option.some.injEq, reduceCtorEq] at h <;> subst h
  · exact lv_lshl X.1 X.2.1 hd rfl kk
  · exact lv_lshr X.1 X.2.1 hd rfl kk
  · exact lv_lushr X.1 X.2.1 hd rfl kk
theorem gx_load {ins : Instr} {i n : Nat} {v : Value} (hi : ins = .iload i ∧ n = 2 ∨ ins = .aload i ∧ n = 2 ∨ ins = .lload i ∧ n = 2 ∨ (∃ k : Fin 4, (k : Nat) = i ∧ n = 1 ∧ (ins = .iload_n k ∨ ins = .aload_n k ∨ ins = .lload_n k))) (hv : gget lv i = some v) (ht : match ins with
    | .iload _ | .iload_n _ => ∃ x, v = .int x
    | .lload _ | .lload_n _ => ∃ x, v = .long x
    | _ => v = .null ∨ ∃ x, v = .ref x) (hd : decode M.2.1 pc = .ok (ins, n)) (k : Go M R E (pc + n, lv, v :: st, w)) : Go M R E (pc, lv, st, w) := by
  refine Go.stk (fun p l e s m args below meth c ad cl sl Qf H locs ls X hl kk => ?_) k
  have hg := gget_at hl hv
  rcases hi with ⟨rfl, rfl⟩ | ⟨rfl, rfl⟩ | ⟨rfl, rfl⟩ | ⟨q, hq, rfl, rfl | rfl | rfl⟩ <;> simp only at ht
  · obtain ⟨x, rfl⟩ := ht
    exact lv_iload X.1 X.2.1 hd hg kk
  · rcases ht with rfl | ⟨x, rfl⟩
    · exact lv_aloadN X.1 X.2.1 hd hg kk
    · exact lv_aload X.1 X.2.1 hd hg kk
  · obtain ⟨x, rfl⟩ := ht
    exact lv_lload X.1 X.2.1 hd hg kk
  · obtain ⟨x, rfl⟩ := ht
    exact lv_iload_n X.1 X.2.1 hd hq hg kk
  · rcases ht with rfl | ⟨x, rfl⟩
    · exact lv_aload_nN X.1 X.2.1 hd hq hg kk
    · exact lv_aload_n X.1 X.2.1 hd hq hg kk
  · obtain ⟨x, rfl⟩ := ht
    exact lv_lload_n X.1 X.2.1 hd hq hg kk
theorem gx_set1 {i n : Nat} {v : Value} (hv : v.category = 1) (hn : i < M.2.2.1) (hstep : ∀ (p : Program) (l : Launch) (e : Env) (s : State) (m : MethodId) (args : Array Value) (below : List Frame) (meth : Method) (c : Code) (ad : Nat → Nat) (cl sl : Nat) (Qf : State → Prop) (H : Heap) (locs : List Loc) (ls : Array Slot), gX M p s m args meth c → lv_has ls M.2.2.1 (lv.map (gl ad)) → (∀ ls' : Array Slot, lv_has ls' M.2.2.1 ((i, gv ad v) :: (lv.map (gl ad)).filter (fun q => !(q.1 == i) && !(q.1 + 1 == i && q.2.category == 2))) → W p l e R s m args below meth c H locs cl sl Qf (F0 m (pc + n) ls' (st.map (gv ad)))) → W p l e R s m args below meth c H locs cl sl Qf (F0 m pc ls ((v :: st).map (gv ad)))) (k : Go M R E (pc + n, gset1 lv i v, st, w)) : Go M R E (pc, lv, v :: st, w) := by
  intro p l e s m args below meth c D ad cA A H0 cl sl Qf X hc hs hA kE H locs ls hI
  refine hstep p l e s m args below meth c ad cl sl Qf H locs ls X hI.2.2.2.2 (fun ls' hl' => ?_)
  refine k p l e s m args below meth c D ad cA A H0 cl sl Qf X hc hs hA kE H locs ls' ⟨hI.1, hI.2.1, hI.2.2.1, hI.2.2.2.1, ?_⟩
  rw [gl_filter1] at hl'
  exact hl'
theorem gx_istore {ins : Instr} {i n : Nat} {x : Int32} (hi : ins = .istore i ∧ n = 2 ∨ (∃ k : Fin 4, (k : Nat) = i ∧ n = 1 ∧ ins = .istore_n k)) (hn : i < M.2.2.1) (hd : decode M.2.1 pc = .ok (ins, n)) (k : Go M R E (pc + n, gset1 lv i (.int x), st, w)) : Go M R E (pc, lv, .int x :: st, w) := by
  refine gx_set1 rfl hn (fun p l e s m args below meth c ad cl sl Qf H locs ls X hl kk => ?_) k
  rcases hi with ⟨rfl, rfl⟩ | ⟨q, hq, rfl, rfl⟩
  · exact lv_istore X.1 X.2.1 hd hl hn rfl kk
  · exact lv_istore_n X.1 X.2.1 hd hq hl hn rfl kk
theorem gx_astore {ins : Instr} {i n : Nat} {v : Value} (hi : ins = .astore i ∧ n = 2 ∨ (∃ k : Fin 4, (k : Nat) = i ∧ n = 1 ∧ ins = .astore_n k)) (hv : v = .null ∨ ∃ x, v = .ref x) (hn : i < M.2.2.1) (hd : decode M.2.1 pc = .ok (ins, n)) (k : Go M R E (pc + n, gset1 lv i v, st, w)) : Go M R E (pc, lv, v :: st, w) := by
  refine gx_set1 (by rcases hv with rfl | ⟨x, rfl⟩ <;> rfl) hn (fun p l e s m args below meth c ad cl sl Qf H locs ls X hl kk => ?_) k
  rcases hv with rfl | ⟨x, rfl⟩
  · rcases hi with ⟨rfl, rfl⟩ | ⟨q, hq, rfl, rfl⟩
    · exact lv_astoreN X.1 X.2.1 hd hl hn rfl kk
    · exact lv_astore_nN X.1 X.2.1 hd hq hl hn rfl kk
  · rcases hi with ⟨rfl, rfl⟩ | ⟨q, hq, rfl, rfl⟩
    · exact lv_astore X.1 X.2.1 hd hl hn rfl kk
    · exact lv_astore_n X.1 X.2.1 hd hq hl hn rfl kk
theorem gx_lstore {ins : Instr} {i n : Nat} {x : Int64} (hi : ins = .lstore i ∧ n = 2 ∨ (∃ k : Fin 4, (k : Nat) = i ∧ n = 1 ∧ ins = .lstore_n k)) (hn : i + 1 < M.2.2.1) (hd : decode M.2.1 pc = .ok (ins, n)) (k : Go M R E (pc + n, gset2 lv i (.long x), st, w)) : Go M R E (pc, lv, .long x :: st, w) := by
  intro p l e s m args below meth c D ad cA A H0 cl sl Qf X hc hs hA kE H locs ls hI
  have kk : ∀ ls' : Array Slot, lv_has ls' M.2.2.1 ((i, Value.long x) :: (lv.map (gl ad)).filter (fun q => !(q.1 == i) && (!(q.1 == i + 1) && !(q.1 + 1 == i && q.2.category == 2)))) → W p l e R s m args below meth c H locs cl sl Qf (F0 m (pc + n) ls' (st.map (gv ad))) := by
    intro ls' hl'
    refine k p l e s m args below meth c D ad cA A H0 cl sl Qf X hc hs hA kE H locs ls' ⟨hI.1, hI.2.1, hI.2.2.1, hI.2.2.2.1, ?_⟩
    rw [gl_filter2] at hl'
    exact hl'
  rcases hi with ⟨rfl, rfl⟩ | ⟨q, hq, rfl, rfl⟩
  · exact lv_lstore X.1 X.2.1 hd hI.2.2.2.2 hn rfl kk
  · exact lv_lstore_n X.1 X.2.1 hd hq hI.2.2.2.2 hn rfl kk
theorem gx_iinc {i : Nat} {n : Int} {x : Int32} (hg : gget lv i = some (.int x)) (hn : i < M.2.2.1) (hd : decode M.2.1 pc = .ok (.iinc i n, 3)) (k : Go M R E (pc + 3, gset1 lv i (.int (x + Int32.ofInt n)), st, w)) : Go M R E (pc, lv, st, w) := by
  intro p l e s m args below meth c D ad cA A H0 cl sl Qf X hc hs hA kE H locs ls hI
  obtain ⟨j, hj⟩ := gget_mem hg
  refine lv_iinc (k := j) X.1 X.2.1 hd hI.2.2.2.2 (by rw [List.getElem?_map, hj]; rfl) rfl hn rfl (fun ls' hl' => ?_)
  refine k p l e s m args below meth c D ad cA A H0 cl sl Qf X hc hs hA kE H locs ls' ⟨hI.1, hI.2.1, hI.2.2.1, hI.2.2.2.1, ?_⟩
  rw [gl_filter1] at hl'
  exact hl'
theorem gx_get {I : gI} (hI : gIok M.1.cls I) {idx a n ci f : Nat} {fs : List Value} {v : Value} (hf : gfind w a 0 = some (n, .inr (ci, fs))) (hk : gfk I.1 idx ci = some f) (hv : fs[f]? = some v) (hd : decode M.2.1 pc = .ok (.getfield idx, 3)) (k : Go M R E (pc + 3, lv, v :: st, w)) : Go M R E (pc, lv, .ref a :: st, w) := by
  intro p l e s m args below meth c D ad cA A H0 cl sl Qf X hc hs hA kE H locs ls hN
  obtain ⟨C, T, N, ref, ty, h1, h2, h3, h4, h5, h6, h7⟩ := hI.1 _ (gfk_mem hk)
  refine va_get (Ts := gTB) (ref := ref) X.1 X.2.1 X.2.2.2.2.2.1 h5 X.2.2.2.2.1 hN.1 hN.2.1 n (gw_at (gfind_at hf)) h1 f h2 (X.2.2.2.2.2.1 _ h3) ?_ (v := gv ad v) ?_ hd (k p l e s m args below meth c D ad cA A H0 cl sl Qf X hc hs hA kE H locs ls hN)
  · rcases h4 with rfl | h4
    · exact fun _ h9 => h9
    · exact fun x9 h9 => u_same (X.2.2.2.2.2.1 _ h4) x9 h9
  · rw [List.getElem?_map, hv]
    rfl
theorem gx_put {I : gI} (hI : gIok M.1.cls I) {idx a n ci f : Nat} {fs : List Value} {v : Value} (hf : gfind w a 0 = some (n, .inr (ci, fs))) (hk : gfk I.1 idx ci = some f) (hq : (match vwCl[ci]? with
    | some q => !(q.2.1 f).2.2.2 && (match parseFieldDescriptor (q.2.1 f).2.2.1 with
      | some ty => gfits ty v
      | none => false)
    | none => false) = true) (hl : f < fs.length) (hd : decode M.2.1 pc = .ok (.putfield idx, 3)) (k : Go M R E (pc + 3, lv, st, w.set n (a, .inr (ci, fs.set f v)))) : Go M R E (pc, lv, v :: .ref a :: st, w) := by
  intro p l e s m args below meth c D ad cA A H0 cl sl Qf X hc hs hA kE H locs ls hN
  obtain ⟨C, T, N, ref, ty, h1, h2, h3, h4, h5, h6, h7⟩ := hI.1 _ (gfk_mem hk)
  dsimp only at h1 h2
  rw [h1] at hq
  simp only [Bool.and_eq_true, Bool.not_eq_true'] at hq
  obtain ⟨q1, q2⟩ := hq
  have h6f := h6 f h2
  rw [h6f] at q2
  obtain ⟨n1, n2⟩ := gfits_spec ad q2
  refine va_put (Ts := gTB) (ref := ref) (v := gv ad v) (ty := ty f) X.1 X.2.1 X.2.2.2.2.2.1 h5 ty h6 h7 X.2.2.2.2.1 hN.1 hN.2.1 hN.2.2.1 hN.2.2.2.1 n (gw_at (gfind_at hf)) h1 f h2 (X.2.2.2.2.2.1 _ h3) ?_ q1 h6f n1 n2 (by rw [List.length_map]; exact hl) hd (fun H1 locs1 p1 p2 p3 => ?_)
  · rcases h4 with rfl | h4
    · exact fun _ h9 => h9
    · exact fun x9 h9 => u_same (X.2.2.2.2.2.1 _ h4) x9 h9
  · refine k p l e s m args below meth c D ad cA A H0 cl sl Qf X hc hs hA kE H1 locs1 ls ⟨hN.1, ?_, ?_, p3, hN.2.2.2.2⟩
    · show va_P D vwCl (gw ad cA (w.set n (a, .inr (ci, fs.set f v)))) H1
      rw [gw_set, gC, List.map_set]
      exact p1
    · show va_D A (gw ad cA (w.set n (a, .inr (ci, fs.set f v))))
      rw [gw_set, gC, List.map_set]
      exact p2
theorem gx_iald {a n z : Nat} {g : Nat → Int32} {i : Int32} (hf : gfind w a 0 = some (n, .inl (0, z, .inl g))) (hin : vp_in i z) (hd : decode M.2.1 pc = .ok (.iaload, 1)) (k : Go M R E (pc + 1, lv, .int (g i.toNatClampNeg) :: st, w)) : Go M R E (pc, lv, .int i :: .ref a :: st, w) := by
  intro p l e s m args below meth c D ad cA A H0 cl sl Qf X hc hs hA kE H locs ls hN
  exact va_iald X.1 X.2.1 hN.1 hN.2.1 n 0 (gw_at (gfind_at hf)) rfl hin hd (k p l e s m args below meth c D ad cA A H0 cl sl Qf X hc hs hA kE H locs ls hN)
theorem gx_lald {a n z : Nat} {g : Nat → Int64} {i : Int32} (hf : gfind w a 0 = some (n, .inl (1, z, .inr (.inl g)))) (hin : vp_in i z) (hd : decode M.2.1 pc = .ok (.laload, 1)) (k : Go M R E (pc + 1, lv, .long (g i.toNatClampNeg) :: st, w)) : Go M R E (pc, lv, .int i :: .ref a :: st, w) := by
  intro p l e s m args below meth c D ad cA A H0 cl sl Qf X hc hs hA kE H locs ls hN
  exact va_lald X.1 X.2.1 hN.1 hN.2.1 n 1 (gw_at (gfind_at hf)) rfl hin hd (k p l e s m args below meth c D ad cA A H0 cl sl Qf X hc hs hA kE H locs ls hN)
theorem gx_aald {a n z : Nat} {g : Nat → Option Nat} {i : Int32} (hf : gfind w a 0 = some (n, .inl (2, z, .inr (.inr (.inr (.inr g)))))) (hin : vp_in i z) (hd : decode M.2.1 pc = .ok (.aaload, 1)) (k : Go M R E (pc + 1, lv, va_rf (g i.toNatClampNeg) :: st, w)) : Go M R E (pc, lv, .int i :: .ref a :: st, w) := by
  intro p l e s m args below meth c D ad cA A H0 cl sl Qf X hc hs hA kE H locs ls hN
  refine va_aldq (C := RX6) X.1 X.2.1 hN.1 hN.2.1 n 2 (gw_at (gfind_at hf)) rfl hin hd ?_
  have e0 : va_rf ((g i.toNatClampNeg).map ad) = gv ad (va_rf (g i.toNatClampNeg)) := by cases g i.toNatClampNeg <;> rfl
  rw [e0]
  exact k p l e s m args below meth c D ad cA A H0 cl sl Qf X hc hs hA kE H locs ls hN
theorem gx_iast {a n z : Nat} {g : Nat → Int32} {i v : Int32} (hf : gfind w a 0 = some (n, .inl (0, z, .inl g))) (hin : vp_in i z) (hd : decode M.2.1 pc = .ok (.iastore, 1)) (k : Go M R E (pc + 1, lv, st, w.set n (a, .inl (0, z, .inl (upd g i.toNatClampNeg v))))) : Go M R E (pc, lv, .int v :: .int i :: .ref a :: st, w) := by
  intro p l e s m args below meth c D ad cA A H0 cl sl Qf X hc hs hA kE H locs ls hN
  refine va_iast X.1 X.2.1 hN.1 hN.2.1 hN.2.2.1 hN.2.2.2.1 n 0 (gw_at (gfind_at hf)) rfl hin hd (fun H1 locs1 p1 p2 p3 => ?_)
  refine k p l e s m args below meth c D ad cA A H0 cl sl Qf X hc hs hA kE H1 locs1 ls ⟨hN.1, ?_, ?_, p3, hN.2.2.2.2⟩
  · show va_P D vwCl (gw ad cA (w.set n _)) H1
    rw [gw_set]
    exact p1
  · show va_D A (gw ad cA (w.set n _))
    rw [gw_set]
    exact p2
theorem gx_last {a n z : Nat} {g : Nat → Int64} {i : Int32} {v : Int64} (hf : gfind w a 0 = some (n, .inl (1, z, .inr (.inl g)))) (hin : vp_in i z) (hd : decode M.2.1 pc = .ok (.lastore, 1)) (k : Go M R E (pc + 1, lv, st, w.set n (a, .inl (1, z, .inr (.inl (vp_updL g i.toNatClampNeg v)))))) : Go M R E (pc, lv, .long v :: .int i :: .ref a :: st, w) := by
  intro p l e s m args below meth c D ad cA A H0 cl sl Qf X hc hs hA kE H locs ls hN
  refine va_last X.1 X.2.1 hN.1 hN.2.1 hN.2.2.1 hN.2.2.2.1 n 1 (gw_at (gfind_at hf)) rfl hin hd (fun H1 locs1 p1 p2 p3 => ?_)
  refine k p l e s m args below meth c D ad cA A H0 cl sl Qf X hc hs hA kE H1 locs1 ls ⟨hN.1, ?_, ?_, p3, hN.2.2.2.2⟩
  · show va_P D vwCl (gw ad cA (w.set n _)) H1
    rw [gw_set]
    exact p1
  · show va_D A (gw ad cA (w.set n _))
    rw [gw_set]
    exact p2
theorem gx_alen {a n t z : Nat} {g : (Nat → Int32) ⊕ (Nat → Int64) ⊕ (Nat → UInt32) ⊕ (Nat → UInt64) ⊕ (Nat → Option Nat)} (hf : gfind w a 0 = some (n, .inl (t, z, g))) (ht : t < 3) (hd : decode M.2.1 pc = .ok (.arraylength, 1)) (k : Go M R E (pc + 1, lv, .int (Int32.ofNat z) :: st, w)) : Go M R E (pc, lv, .ref a :: st, w) := by
  intro p l e s m args below meth c D ad cA A H0 cl sl Qf X hc hs hA kE H locs ls hN
  have h9 : (gA ad (z, g)).1 = z := by
    rcases g with g | g | g | g | g <;> rfl
  refine va_alen (ty := if t = 0 then .int else if t = 1 then .long else .object RX6) X.1 X.2.1 hN.1 hN.2.1 n t (gw_at (gfind_at hf)) ?_ (by rw [h9]) hd (k p l e s m args below meth c D ad cA A H0 cl sl Qf X hc hs hA kE H locs ls hN)
  rcases (show t = 0 ∨ t = 1 ∨ t = 2 by omega) with rfl | rfl | rfl <;> rfl
end InsRules
end
section
/-! An instruction as a function (g2), a stretch of instructions (prun), branches, ends. -/
abbrev gvp (i : Int32) (n : Nat) : Prop := ¬ (i < 0 ∨ n ≤ i.toNatClampNeg)
def g2 (I : gI) (nL : Nat) (ins : Instr) (pc : Nat) (lv : List (Nat × Value)) (st : List Value) (w : gW) : Option (gS × List Prop) :=
  match ins with
  | .iconst n => some ((pc + 1, lv, .int (Int32.ofInt n) :: st, w), [])
  | .bipush n => some ((pc + 2, lv, .int (Int8.ofInt n).toInt32 :: st, w), [])
  | .sipush n => some ((pc + 3, lv, .int (Int16.ofInt n).toInt32 :: st, w), [])
  | .lconst n => some ((pc + 1, lv, .long (Int64.ofNat (n : Nat)) :: st, w), [])
  | .aconst_null => some ((pc + 1, lv, .null :: st, w), [])
  | .ldc i => match gck I.2.1 i with
    | some v => some ((pc + 2, lv, .int v :: st, w), [])
    | none => none
  | .ldc_w i => match gck I.2.1 i with
    | some v => some ((pc + 3, lv, .int v :: st, w), [])
    | none => none
  | .ldc2_w i => match gck I.2.2 i with
    | some v => some ((pc + 3, lv, .long v :: st, w), [])
    | none => none
  | .iload i => match gget lv i with
    | some (.int v) => some ((pc + 2, lv, .int v :: st, w), [])
    | _ => none
  | .iload_n i => match gget lv (i : Nat) with
    | some (.int v) => some ((pc + 1, lv, .int v :: st, w), [])
    | _ => none
  | .lload i => match gget lv i with
    | some (.long v) => some ((pc + 2, lv, .long v :: st, w), [])
    | _ => none
  | .lload_n i => match gget lv (i : Nat) with
    | some (.long v) => some ((pc + 1, lv, .long v :: st, w), [])
    | _ => none
  | .aload i => match gget lv i with
    | some (.ref v) => some ((pc + 2, lv, .ref v :: st, w), [])
    | some .null => some ((pc + 2, lv, .null :: st, w), [])
    | _ => none
  | .aload_n i => match gget lv (i : Nat) with
    | some (.ref v) => some ((pc + 1, lv, .ref v :: st, w), [])
    | some .null => some ((pc + 1, lv, .null :: st, w), [])
    | _ => none
  | .istore i => match st with
    | .int v :: st => bif Nat.blt i nL then some ((pc + 2, gset1 lv i (.int v), st, w), []) else none
    | _ => none
  | .istore_n i => match st with
    | .int v :: st => bif Nat.blt (i : Nat) nL then some ((pc + 1, gset1 lv (i : Nat) (.int v), st, w), []) else none
    | _ => none
  | .lstore i => match st with
    | .long v :: st => bif Nat.blt (i + 1) nL then some ((pc + 2, gset2 lv i (.long v), st, w), []) else none
    | _ => none
  | .lstore_n i => match st with
    | .long v :: st => bif Nat.blt ((i : Nat) + 1) nL then some ((pc + 1, gset2 lv (i : Nat) (.long v), st, w), []) else none
    | _ => none
  | .astore i => match st with
    | .ref v :: st => bif Nat.blt i nL then some ((pc + 2, gset1 lv i (.ref v), st, w), []) else none
    | .null :: st => bif Nat.blt i nL then some ((pc + 2, gset1 lv i .null, st, w), []) else none
    | _ => none
  | .astore_n i => match st with
    | .ref v :: st => bif Nat.blt (i : Nat) nL then some ((pc + 1, gset1 lv (i : Nat) (.ref v), st, w), []) else none
    | .null :: st => bif Nat.blt (i : Nat) nL then some ((pc + 1, gset1 lv (i : Nat) .null, st, w), []) else none
    | _ => none
  | .iinc i n => match gget lv i with
    | some (.int v) => bif Nat.blt i nL then some ((pc + 3, gset1 lv i (.int (v + Int32.ofInt n)), st, w), []) else none
    | _ => none
  | .i2l => match st with
    | .int v :: st => some ((pc + 1, lv, .long v.toInt64 :: st, w), [])
    | _ => none
  | .l2i => match st with
    | .long v :: st => some ((pc + 1, lv, .int v.toInt32 :: st, w), [])
    | _ => none
  | .i2s => match st with
    | .int v :: st => some ((pc + 1, lv, .int v.toInt16.toInt32 :: st, w), [])
    | _ => none
  | .ineg => match st with
    | .int v :: st => some ((pc + 1, lv, .int (-v) :: st, w), [])
    | _ => none
  | .lcmp => match st with
    | .long b :: .long a :: st => some ((pc + 1, lv, .int (lg_cmp a b) :: st, w), [])
    | _ => none
  | .idiv => match st with
    | .int b :: .int a :: st => some ((pc + 1, lv, .int (a / b) :: st, w), [¬ b = 0])
    | _ => none
  | .irem => match st with
    | .int b :: .int a :: st => some ((pc + 1, lv, .int (a - a / b * b) :: st, w), [¬ b = 0])
    | _ => none
  | .dup => match st with
    | .int v :: st => some ((pc + 1, lv, .int v :: .int v :: st, w), [])
    | .ref v :: st => some ((pc + 1, lv, .ref v :: .ref v :: st, w), [])
    | _ => none
  | .dup2 => match st with
    | .int v :: .ref u :: st => some ((pc + 1, lv, .int v :: .ref u :: .int v :: .ref u :: st, w), [])
    | _ => none
  | .pop => match st with
    | .int _ :: st => some ((pc + 1, lv, st, w), [])
    | _ => none
  | .getfield i => match st with
    | .ref a :: st => match gfind w a 0 with
      | some (_, .inr (ci, fs)) => match gfk I.1 i ci with
        | some f => match fs[f]? with
          | some v => some ((pc + 3, lv, v :: st, w), [])
          | none => none
        | none => none
      | _ => none
    | _ => none
  | .putfield i => match st with
    | v :: .ref a :: st => match gfind w a 0 with
      | some (n, .inr (ci, fs)) => match gfk I.1 i ci with
        | some f => bif (match vwCl[ci]? with
              | some q => !(q.2.1 f).2.2.2 && (match parseFieldDescriptor (q.2.1 f).2.2.1 with
                | some ty => gfits ty v
                | none => false)
              | none => false) && Nat.blt f fs.length then some ((pc + 3, lv, st, w.set n (a, .inr (ci, fs.set f v))), []) else none
        | none => none
      | _ => none
    | _ => none
  | .iaload => match st with
    | .int i :: .ref a :: st => match gfind w a 0 with
      | some (_, .inl (0, z, .inl g)) => some ((pc + 1, lv, .int (g i.toNatClampNeg) :: st, w), [gvp i z])
      | _ => none
    | _ => none
  | .laload => match st with
    | .int i :: .ref a :: st => match gfind w a 0 with
      | some (_, .inl (1, z, .inr (.inl g))) => some ((pc + 1, lv, .long (g i.toNatClampNeg) :: st, w), [gvp i z])
      | _ => none
    | _ => none
  | .aaload => match st with
    | .int i :: .ref a :: st => match gfind w a 0 with
      | some (_, .inl (2, z, .inr (.inr (.inr (.inr g))))) => some ((pc + 1, lv, va_rf (g i.toNatClampNeg) :: st, w), [gvp i z])
      | _ => none
    | _ => none
  | .iastore => match st with
    | .int v :: .int i :: .ref a :: st => match gfind w a 0 with
      | some (n, .inl (0, z, .inl g)) => some ((pc + 1, lv, st, w.set n (a, .inl (0, z, .inl (upd g i.toNatClampNeg v)))), [gvp i z])
      | _ => none
    | _ => none
  | .lastore => match st with
    | .long v :: .int i :: .ref a :: st => match gfind w a 0 with
      | some (n, .inl (1, z, .inr (.inl g))) => some ((pc + 1, lv, st, w.set n (a, .inl (1, z, .inr (.inl (vp_updL g i.toNatClampNeg v))))), [gvp i z])
      | _ => none
    | _ => none
  | .arraylength => match st with
    | .ref a :: st => match gfind w a 0 with
      | some (_, .inl (t, z, _)) => bif Nat.blt t 3 then some ((pc + 1, lv, .int (Int32.ofNat z) :: st, w), []) else none
      | _ => none
    | _ => none
  | .goto off => match ((pc : Int) + off) with
    | .ofNat t => some ((t, lv, st, w), [])
    | _ => none
  | ins => match gbin ins with
    | some f => match st with
      | .int b :: .int a :: st => some ((pc + 1, lv, .int (f a b) :: st, w), [])
      | _ => none
    | none => match glbin ins with
      | some f => match st with
        | .long b :: .long a :: st => some ((pc + 1, lv, .long (f a b) :: st, w), [])
        | _ => none
      | none => match glsh ins with
        | some f => match st with
          | .int b :: .long a :: st => some ((pc + 1, lv, .long (f a b) :: st, w), [])
          | _ => none
        | none => none
section RunRules
variable {M : gM} {R : Room} {E : gS → Prop} {pc : Nat} {lv : List (Nat × Value)} {st : List Value} {w : gW}
theorem gx_topstk {pc' : Nat} {st' : List Value} (hstep : ∀ (p : Program) (l : Launch) (e : Env) (s : State) (m : MethodId) (args : Array Value) (below : List Frame) (meth : Method) (c : Code) (ad : Nat → Nat) (cl sl : Nat) (Qf : State → Prop) (H : Heap) (locs : List Loc) (ls : Array Slot), gX M p s m args meth c → W p l e R s m args below meth c H locs cl sl Qf (F0 m pc' ls (st'.map (gv ad))) → W p l e R s m args below meth c H locs cl sl Qf (F0 m pc ls (st.map (gv ad)))) (k : Go M R E (pc', lv, st', w)) : Go M R E (pc, lv, st, w) :=
  Go.stk (fun p l e s m args below meth c ad cl sl Qf H locs ls X _ kk => hstep p l e s m args below meth c ad cl sl Qf H locs ls X kk) k
set_option maxHeartbeats 4000000 in
theorem g2_sound {I : gI} (hI : gIok M.1.cls I) {ins : Instr} {y : gS} {cs : List Prop} (h : g2 I M.2.2.1 ins pc lv st w = some (y, cs)) (hd : decode M.2.1 pc = .ok (ins, glen ins)) (hc : gAll cs) (k : Go M R E y) : Go M R E (pc, lv, st, w) := by
  cases ins
  case iconst n =>
    cases h
    exact gx_topstk (fun p l e s m args below meth c ad cl sl Qf H locs ls X kk => lv_iconst X.1 X.2.1 hd rfl kk) k
  case bipush n =>
    cases h
    exact gx_topstk (fun p l e s m args below meth c ad cl sl Qf H locs ls X kk => lv_bipush X.1 X.2.1 hd rfl kk) k
  case sipush n =>
    cases h
    exact gx_topstk (fun p l e s m args below meth c ad cl sl Qf H locs ls X kk => lv_sipush X.1 X.2.1 hd rfl kk) k
  case lconst n =>
    cases h
    exact gx_topstk (fun p l e s m args below meth c ad cl sl Qf H locs ls X kk => lv_lconst X.1 X.2.1 hd rfl kk) k
  case aconst_null =>
    cases h
    exact gx_topstk (fun p l e s m args below meth c ad cl sl Qf H locs ls X kk => lv_null X.1 X.2.1 hd kk) k
  case ldc i =>
    simp only [g2] at h
    split at h
    · rename_i v hv
      cases h
      exact gx_topstk (fun p l e s m args below meth c ad cl sl Qf H locs ls X kk => lv_ldc X.1 X.2.1 X.2.2.2.2.1 (X.2.2.2.2.2.1 _ (hI.2.1 _ (gck_mem hv))) hd kk) k
    · cases h
  case ldc_w i =>
    simp only [g2] at h
    split at h
    · rename_i v hv
      cases h
      exact gx_topstk (fun p l e s m args below meth c ad cl sl Qf H locs ls X kk => lv_ldcw X.1 X.2.1 X.2.2.2.2.1 (X.2.2.2.2.2.1 _ (hI.2.1 _ (gck_mem hv))) hd kk) k
    · cases h
  case ldc2_w i =>
    simp only [g2] at h
    split at h
    · rename_i v hv
      cases h
      exact gx_topstk (fun p l e s m args below meth c ad cl sl Qf H locs ls X kk => lv_ldc2 X.1 X.2.1 X.2.2.2.2.1 (X.2.2.2.2.2.1 _ (hI.2.2 _ (gck_mem hv))) hd kk) k
    · cases h
  case iload i =>
    simp only [g2] at h
    split at h
    · rename_i v hv
      cases h
      exact gx_load (Or.inl ⟨rfl, rfl⟩) hv ⟨_, rfl⟩ hd k
    · cases h
  case iload_n i =>
    simp only [g2] at h
    split at h
    · rename_i v hv
      cases h
      exact gx_load (Or.inr (Or.inr (Or.inr ⟨i, rfl, rfl, Or.inl rfl⟩))) hv ⟨_, rfl⟩ hd k
    · cases h
  case lload i =>
    simp only [g2] at h
    split at h
    · rename_i v hv
      cases h
      exact gx_load (Or.inr (Or.inr (Or.inl ⟨rfl, rfl⟩))) hv ⟨_, rfl⟩ hd k
    · cases h
  case lload_n i =>
    simp only [g2] at h
    split at h
    · rename_i v hv
      cases h
      exact gx_load (Or.inr (Or.inr (Or.inr ⟨i, rfl, rfl, Or.inr (Or.inr rfl)⟩))) hv ⟨_, rfl⟩ hd k
    · cases h
  case aload i =>
    simp only [g2] at h
    split at h
    · rename_i v hv
      cases h
      exact gx_load (Or.inr (Or.inl ⟨rfl, rfl⟩)) hv (Or.inr ⟨_, rfl⟩) hd k
    · rename_i hv
      cases h
      exact gx_load (Or.inr (Or.inl ⟨rfl, rfl⟩)) hv (Or.inl rfl) hd k
    · cases h
  case aload_n i =>
    simp only [g2] at h
    split at h
    · rename_i v hv
      cases h
      exact gx_load (Or.inr (Or.inr (Or.inr ⟨i, rfl, rfl, Or.inr (Or.inl rfl)⟩))) hv (Or.inr ⟨_, rfl⟩) hd k
    · rename_i hv
      cases h
      exact gx_load (Or.inr (Or.inr (Or.inr ⟨i, rfl, rfl, Or.inr (Or.inl rfl)⟩))) hv (Or.inl rfl) hd k
    · cases h
  case istore i =>
    simp only [g2] at h
    split at h
    · by_cases hb : Nat.blt i M.2.2.1 = true
      · rw [hb] at h
        cases h
        exact gx_istore (Or.inl ⟨rfl, rfl⟩) (Nat.blt_eq.mp hb) hd k
      · rw [Bool.eq_false_iff.mpr hb] at h
        cases h
    · cases h
  case istore_n i =>
    simp only [g2] at h
    split at h
    · by_cases hb : Nat.blt (i : Nat) M.2.2.1 = true
      · rw [hb] at h
        cases h
        exact gx_istore (Or.inr ⟨i, rfl, rfl, rfl⟩) (Nat.blt_eq.mp hb) hd k
      · rw [Bool.eq_false_iff.mpr hb] at h
        cases h
    · cases h
  case lstore i =>
    simp only [g2] at h
    split at h
    · by_cases hb : Nat.blt (i + 1) M.2.2.1 = true
      · rw [hb] at h
        cases h
        exact gx_lstore (Or.inl ⟨rfl, rfl⟩) (Nat.blt_eq.mp hb) hd k
      · rw [Bool.eq_false_iff.mpr hb] at h
        cases h
    · cases h
  case lstore_n i =>
    simp only [g2] at h
    split at h
    · by_cases hb : Nat.blt ((i : Nat) + 1) M.2.2.1 = true
      · rw [hb] at h
        cases h
        exact gx_lstore (Or.inr ⟨i, rfl, rfl, rfl⟩) (Nat.blt_eq.mp hb) hd k
      · rw [Bool.eq_false_iff.mpr hb] at h
        cases h
    · cases h
  case astore i =>
    simp only [g2] at h
    split at h
    · by_cases hb : Nat.blt i M.2.2.1 = true
      · rw [hb] at h
        cases h
        exact gx_astore (Or.inl ⟨rfl, rfl⟩) (Or.inr ⟨_, rfl⟩) (Nat.blt_eq.mp hb) hd k
      · rw [Bool.eq_false_iff.mpr hb] at h
        cases h
    · by_cases hb : Nat.blt i M.2.2.1 = true
      · rw [hb] at h
        cases h
        exact gx_astore (Or.inl ⟨rfl, rfl⟩) (Or.inl rfl) (Nat.blt_eq.mp hb) hd k
      · rw [Bool.eq_false_iff.mpr hb] at h
        cases h
    · cases h
  case astore_n i =>
    simp only [g2] at h
    split at h
    · by_cases hb : Nat.blt (i : Nat) M.2.2.1 = true
      · rw [hb] at h
        cases h
        exact gx_astore (Or.inr ⟨i, rfl, rfl, rfl⟩) (Or.inr ⟨_, rfl⟩) (Nat.blt_eq.mp hb) hd k
      · rw [Bool.eq_false_iff.mpr hb] at h
        cases h
    · by_cases hb : Nat.blt (i : Nat) M.2.2.1 = true
      · rw [hb] at h
        cases h
        exact gx_astore (Or.inr ⟨i, rfl, rfl, rfl⟩) (Or.inl rfl) (Nat.blt_eq.mp hb) hd k
      · rw [Bool.eq_false_iff.mpr hb] at h
        cases h
    · cases h
  case iinc i n =>
    simp only [g2] at h
    split at h
    · rename_i v hv
      by_cases hb : Nat.blt i M.2.2.1 = true
      · rw [hb] at h
        cases h
        exact gx_iinc hv (Nat.blt_eq.mp hb) hd k
      · rw [Bool.eq_false_iff.mpr hb] at h
        cases h
    · cases h
  case i2l =>
    simp only [g2] at h
    split at h
    · cases h
      exact gx_topstk (fun p l e s m args below meth c ad cl sl Qf H locs ls X kk => lv_i2l X.1 X.2.1 hd rfl kk) k
    · cases h
  case l2i =>
    simp only [g2] at h
    split at h
    · cases h
      exact gx_topstk (fun p l e s m args below meth c ad cl sl Qf H locs ls X kk => lv_l2i X.1 X.2.1 hd rfl kk) k
    · cases h
  case i2s =>
    simp only [g2] at h
    split at h
    · cases h
      exact gx_topstk (fun p l e s m args below meth c ad cl sl Qf H locs ls X kk => lv_i2s X.1 X.2.1 hd rfl kk) k
    · cases h
  case ineg =>
    simp only [g2] at h
    split at h
    · cases h
      exact gx_topstk (fun p l e s m args below meth c ad cl sl Qf H locs ls X kk => lv_ineg X.1 X.2.1 hd kk) k
    · cases h
  case lcmp =>
    simp only [g2] at h
    split at h
    · cases h
      exact gx_topstk (fun p l e s m args below meth c ad cl sl Qf H locs ls X kk => W.lcmp X.1 X.2.1 hd kk) k
    · cases h
  case idiv =>
    simp only [g2] at h
    split at h
    · cases h
      exact gx_topstk (fun p l e s m args below meth c ad cl sl Qf H locs ls X kk => lv_idiv X.1 X.2.1 hd hc.1 kk) k
    · cases h
  case irem =>
    simp only [g2] at h
    split at h
    · cases h
      exact gx_topstk (fun p l e s m args below meth c ad cl sl Qf H locs ls X kk => lv_irem X.1 X.2.1 hd hc.1 kk) k
    · cases h
  case dup =>
    simp only [g2] at h
    split at h
    · cases h
      exact gx_topstk (fun p l e s m args below meth c ad cl sl Qf H locs ls X kk => lv_dup X.1 X.2.1 hd rfl kk) k
    · cases h
      exact gx_topstk (fun p l e s m args below meth c ad cl sl Qf H locs ls X kk => lv_dup X.1 X.2.1 hd rfl kk) k
    · cases h
  case dup2 =>
    simp only [g2] at h
    split at h
    · cases h
      exact gx_topstk (fun p l e s m args below meth c ad cl sl Qf H locs ls X kk => lv_dup2_11 X.1 X.2.1 hd rfl rfl kk) k
    · cases h
  case pop =>
    simp only [g2] at h
    split at h
    · cases h
      exact gx_topstk (fun p l e s m args below meth c ad cl sl Qf H locs ls X kk => lv_pop X.1 X.2.1 hd rfl kk) k
    · cases h
  case getfield i =>
    simp only [g2] at h
    split at h
    · split at h
      · rename_i h1
        split at h
        · rename_i h2
          split at h
          · rename_i h3
            cases h
            exact gx_get hI h1 h2 h3 hd k
          · cases h
        · cases h
      · cases h
    · cases h
  case putfield i =>
    simp only [g2] at h
    split at h
    · split at h
      · rename_i h1
        split at h
        · rename_i h2
          revert h
          generalize hb : ((_ : Bool) && _) = b0
          intro h
          cases b0
          · cases h
          · cases h
            obtain ⟨b1, b2⟩ := Bool.and_eq_true_iff.mp hb
            exact gx_put hI h1 h2 b1 (Nat.blt_eq.mp b2) hd k
        · cases h
      · cases h
    · cases h
  case iaload =>
    simp only [g2] at h
    split at h
    · split at h
      · rename_i h1
        cases h
        exact gx_iald h1 hc.1 hd k
      · cases h
    · cases h
  case laload =>
    simp only [g2] at h
    split at h
    · split at h
      · rename_i h1
        cases h
        exact gx_lald h1 hc.1 hd k
      · cases h
    · cases h
  case aaload =>
    simp only [g2] at h
    split at h
    · split at h
      · rename_i h1
        cases h
        exact gx_aald h1 hc.1 hd k
      · cases h
    · cases h
  case iastore =>
    simp only [g2] at h
    split at h
    · split at h
      · rename_i h1
        cases h
        exact gx_iast h1 hc.1 hd k
      · cases h
    · cases h
  case lastore =>
    simp only [g2] at h
    split at h
    · split at h
      · rename_i h1
        cases h
        exact gx_last h1 hc.1 hd k
      · cases h
    · cases h
  case arraylength =>
    simp only [g2] at h
    split at h
    · split at h
      · rename_i t z g h1
        by_cases hb : Nat.blt t 3 = true
        · rw [hb] at h
          cases h
          exact gx_alen h1 (Nat.blt_eq.mp hb) hd k
        · rw [Bool.eq_false_iff.mpr hb] at h
          cases h
      · cases h
    · cases h
  case goto off =>
    simp only [g2] at h
    split at h
    · rename_i t ht
      cases h
      exact gx_topstk (fun p l e s m args below meth c ad cl sl Qf H locs ls X kk => lv_goto X.1 X.2.1 hd ht kk) k
    · cases h
  all_goals
    first
      | (simp only [g2, gbin, glbin, glsh] at h; cases h; done)
      | (simp only [g2, gbin, glbin, glsh] at h
         split at h
         · cases h
           first
             | exact gx_bin rfl hd k
             | exact gx_lbin rfl hd k
             | exact gx_lsh rfl hd k
         · cases h)
end RunRules
end
section
/-! Stretches, branches, ends, contracts, calls. -/
def prun (I : gI) (nL : Nat) : List (Nat × Instr) → gS → Option (gS × List Prop)
  | [], x => some (x, [])
  | b :: B, x => bif x.1 == b.1 then (match g2 I nL b.2 x.1 x.2.1 x.2.2.1 x.2.2.2 with
    | none => none
    | some (y, cs) => match prun I nL B y with
      | none => none
      | some (z, ds) => some (z, cs ++ ds)) else none
def gDec (cc : ByteArray) (B : List (Nat × Instr)) : Prop := ∀ b ∈ B, decode cc b.1 = .ok (b.2, glen b.2)
theorem gAll_app : ∀ {a b : List Prop}, gAll (a ++ b) → gAll a ∧ gAll b
  | [], _, h => ⟨trivial, h⟩
  | _ :: _, _, h => ⟨⟨h.1, (gAll_app h.2).1⟩, (gAll_app h.2).2⟩
section Flow
variable {M : gM} {R : Room} {E : gS → Prop} {pc : Nat} {lv : List (Nat × Value)} {st : List Value} {w : gW}
theorem prun_sound {I : gI} (hI : gIok M.1.cls I) : ∀ (B : List (Nat × Instr)) {x y : gS} {cs : List Prop}, gDec M.2.1 B → prun I M.2.2.1 B x = some (y, cs) → gAll cs → Go M R E y → Go M R E x
  | [], x, y, cs, _, h, _, k => by
    cases h
    exact k
  | b :: B, x, y, cs, hd, h, hc, k => by
    unfold prun at h
    by_cases hb : x.1 = b.1
    · have hb2 : (x.1 == b.1) = true := by simpa using hb
      rw [hb2] at h
      simp only [cond_true] at h
      split at h
      · cases h
      · rename_i y1 cs1 h1
        split at h
        · cases h
        · rename_i z ds h2
          cases h
          obtain ⟨c1, c2⟩ := gAll_app hc
          obtain ⟨pc, lv, st, w⟩ := x
          refine g2_sound hI h1 ?_ c1 (prun_sound hI B (fun b hb => hd b (List.mem_cons_of_mem _ hb)) h2 c2 k)
          have h3 := hd b List.mem_cons_self
          have hb : pc = b.1 := hb
          rw [hb]
          exact h3
    · have hb2 : (x.1 == b.1) = false := by simpa using hb
      rw [hb2] at h
      cases h
/-- a stretch of n instructions from the i-th on -/
theorem Go.run {I : gI} {L : List (Nat × Instr)} (hd : gDec M.2.1 L) (hI : gIok M.1.cls I) (i n : Nat) {x : gS} (y : gS) (cs : List Prop) (h : prun I M.2.2.1 ((L.drop i).take n) x = some (y, cs)) (hc : gAll cs) (k : Go M R E y) : Go M R E x :=
  prun_sound hI _ (fun b hb => hd b (List.mem_of_mem_drop (List.mem_of_mem_take hb))) h hc k
/-- the decoded instruction at the i-th place -/
theorem gDec.at {cc : ByteArray} {L : List (Nat × Instr)} (hd : gDec cc L) (i : Nat) {b : Nat × Instr} (h : L[i]? = some b) : decode cc b.1 = .ok (b.2, glen b.2) := hd b (List.mem_of_getElem? h)
theorem gx_br {P : Prop} [Decidable P] {tgt pc' : Nat} {st' : List Value} (hstep : ∀ (p : Program) (l : Launch) (e : Env) (s : State) (m : MethodId) (args : Array Value) (below : List Frame) (meth : Method) (c : Code) (ad : Nat → Nat) (cl sl : Nat) (Qf : State → Prop) (H : Heap) (locs : List Loc) (ls : Array Slot), gX M p s m args meth c → (P → W p l e R s m args below meth c H locs cl sl Qf (F0 m tgt ls (st'.map (gv ad)))) → (¬ P → W p l e R s m args below meth c H locs cl sl Qf (F0 m pc' ls (st'.map (gv ad)))) → W p l e R s m args below meth c H locs cl sl Qf (F0 m pc ls (st.map (gv ad)))) (kt : P → Go M R E (tgt, lv, st', w)) (kf : ¬ P → Go M R E (pc', lv, st', w)) : Go M R E (pc, lv, st, w) := by
  intro p l e s m args below meth c D ad cA A H0 cl sl Qf X hc hs hA kE H locs ls hI
  exact hstep p l e s m args below meth c ad cl sl Qf H locs ls X (fun h => kt h p l e s m args below meth c D ad cA A H0 cl sl Qf X hc hs hA kE H locs ls hI) (fun h => kf h p l e s m args below meth c D ad cA A H0 cl sl Qf X hc hs hA kE H locs ls hI)
theorem Go.if_eq {x : Int32} {off : Int} (tgt : Nat) (hd : decode M.2.1 pc = .ok (.ifCond .eq off, 3)) (ht : (pc : Int) + off = (tgt : Int)) (kt : x = 0 → Go M R E (tgt, lv, st, w)) (kf : ¬ x = 0 → Go M R E (pc + 3, lv, st, w)) : Go M R E (pc, lv, .int x :: st, w) :=
  gx_br (fun p l e s m args below meth c ad cl sl Qf H locs ls X a b => lv_if_eq X.1 X.2.1 hd ht a b) kt kf
theorem Go.if_ne {x : Int32} {off : Int} (tgt : Nat) (hd : decode M.2.1 pc = .ok (.ifCond .ne off, 3)) (ht : (pc : Int) + off = (tgt : Int)) (kt : ¬ x = 0 → Go M R E (tgt, lv, st, w)) (kf : x = 0 → Go M R E (pc + 3, lv, st, w)) : Go M R E (pc, lv, .int x :: st, w) :=
  gx_br (P := x = 0) (fun p l e s m args below meth c ad cl sl Qf H locs ls X a b => lv_if_ne X.1 X.2.1 hd ht b a) kf kt
theorem Go.if_lt {x : Int32} {off : Int} (tgt : Nat) (hd : decode M.2.1 pc = .ok (.ifCond .lt off, 3)) (ht : (pc : Int) + off = (tgt : Int)) (kt : x < 0 → Go M R E (tgt, lv, st, w)) (kf : ¬ x < 0 → Go M R E (pc + 3, lv, st, w)) : Go M R E (pc, lv, .int x :: st, w) :=
  gx_br (fun p l e s m args below meth c ad cl sl Qf H locs ls X a b => lv_if_lt X.1 X.2.1 hd ht a b) kt kf
theorem Go.if_ge {x : Int32} {off : Int} (tgt : Nat) (hd : decode M.2.1 pc = .ok (.ifCond .ge off, 3)) (ht : (pc : Int) + off = (tgt : Int)) (kt : 0 ≤ x → Go M R E (tgt, lv, st, w)) (kf : ¬ 0 ≤ x → Go M R E (pc + 3, lv, st, w)) : Go M R E (pc, lv, .int x :: st, w) :=
  gx_br (fun p l e s m args below meth c ad cl sl Qf H locs ls X a b => lv_if_ge X.1 X.2.1 hd ht a b) kt kf
theorem Go.if_gt {x : Int32} {off : Int} (tgt : Nat) (hd : decode M.2.1 pc = .ok (.ifCond .gt off, 3)) (ht : (pc : Int) + off = (tgt : Int)) (kt : 0 < x → Go M R E (tgt, lv, st, w)) (kf : ¬ 0 < x → Go M R E (pc + 3, lv, st, w)) : Go M R E (pc, lv, .int x :: st, w) :=
  gx_br (fun p l e s m args below meth c ad cl sl Qf H locs ls X a b => lv_if_gt X.1 X.2.1 hd ht a b) kt kf
theorem Go.if_le {x : Int32} {off : Int} (tgt : Nat) (hd : decode M.2.1 pc = .ok (.ifCond .le off, 3)) (ht : (pc : Int) + off = (tgt : Int)) (kt : x ≤ 0 → Go M R E (tgt, lv, st, w)) (kf : ¬ x ≤ 0 → Go M R E (pc + 3, lv, st, w)) : Go M R E (pc, lv, .int x :: st, w) :=
  gx_br (fun p l e s m args below meth c ad cl sl Qf H locs ls X a b => lv_if_le X.1 X.2.1 hd ht a b) kt kf
theorem Go.icmp_eq {x y : Int32} {off : Int} (tgt : Nat) (hd : decode M.2.1 pc = .ok (.if_icmp .eq off, 3)) (ht : (pc : Int) + off = (tgt : Int)) (kt : x = y → Go M R E (tgt, lv, st, w)) (kf : ¬ x = y → Go M R E (pc + 3, lv, st, w)) : Go M R E (pc, lv, .int y :: .int x :: st, w) :=
  gx_br (fun p l e s m args below meth c ad cl sl Qf H locs ls X a b => lv_icmp_eq X.1 X.2.1 hd ht a b) kt kf
theorem Go.icmp_ne {x y : Int32} {off : Int} (tgt : Nat) (hd : decode M.2.1 pc = .ok (.if_icmp .ne off, 3)) (ht : (pc : Int) + off = (tgt : Int)) (kt : ¬ x = y → Go M R E (tgt, lv, st, w)) (kf : x = y → Go M R E (pc + 3, lv, st, w)) : Go M R E (pc, lv, .int y :: .int x :: st, w) :=
  gx_br (P := x = y) (fun p l e s m args below meth c ad cl sl Qf H locs ls X a b => lv_icmp_ne X.1 X.2.1 hd ht b a) kf kt
theorem Go.icmp_lt {x y : Int32} {off : Int} (tgt : Nat) (hd : decode M.2.1 pc = .ok (.if_icmp .lt off, 3)) (ht : (pc : Int) + off = (tgt : Int)) (kt : x < y → Go M R E (tgt, lv, st, w)) (kf : ¬ x < y → Go M R E (pc + 3, lv, st, w)) : Go M R E (pc, lv, .int y :: .int x :: st, w) :=
  gx_br (fun p l e s m args below meth c ad cl sl Qf H locs ls X a b => lv_icmp_lt X.1 X.2.1 hd ht a b) kt kf
theorem Go.icmp_ge {x y : Int32} {off : Int} (tgt : Nat) (hd : decode M.2.1 pc = .ok (.if_icmp .ge off, 3)) (ht : (pc : Int) + off = (tgt : Int)) (kt : y ≤ x → Go M R E (tgt, lv, st, w)) (kf : ¬ y ≤ x → Go M R E (pc + 3, lv, st, w)) : Go M R E (pc, lv, .int y :: .int x :: st, w) :=
  gx_br (fun p l e s m args below meth c ad cl sl Qf H locs ls X a b => lv_icmp_ge X.1 X.2.1 hd ht a b) kt kf
theorem Go.icmp_gt {x y : Int32} {off : Int} (tgt : Nat) (hd : decode M.2.1 pc = .ok (.if_icmp .gt off, 3)) (ht : (pc : Int) + off = (tgt : Int)) (kt : y < x → Go M R E (tgt, lv, st, w)) (kf : ¬ y < x → Go M R E (pc + 3, lv, st, w)) : Go M R E (pc, lv, .int y :: .int x :: st, w) :=
  gx_br (fun p l e s m args below meth c ad cl sl Qf H locs ls X a b => lv_icmp_gt X.1 X.2.1 hd ht a b) kt kf
theorem Go.icmp_le {x y : Int32} {off : Int} (tgt : Nat) (hd : decode M.2.1 pc = .ok (.if_icmp .le off, 3)) (ht : (pc : Int) + off = (tgt : Int)) (kt : x ≤ y → Go M R E (tgt, lv, st, w)) (kf : ¬ x ≤ y → Go M R E (pc + 3, lv, st, w)) : Go M R E (pc, lv, .int y :: .int x :: st, w) :=
  gx_br (fun p l e s m args below meth c ad cl sl Qf H locs ls X a b => lv_icmp_le X.1 X.2.1 hd ht a b) kt kf
theorem Go.ifnull_y {off : Int} (tgt : Nat) (hd : decode M.2.1 pc = .ok (.ifnull off, 3)) (ht : (pc : Int) + off = (tgt : Int)) (k : Go M R E (tgt, lv, st, w)) : Go M R E (pc, lv, .null :: st, w) :=
  gx_topstk (fun p l e s m args below meth c ad cl sl Qf H locs ls X kk => lv_ifnullN X.1 X.2.1 hd ht kk) k
theorem Go.ifnull_n {off : Int} {a : Nat} (hd : decode M.2.1 pc = .ok (.ifnull off, 3)) (k : Go M R E (pc + 3, lv, st, w)) : Go M R E (pc, lv, .ref a :: st, w) :=
  gx_topstk (fun p l e s m args below meth c ad cl sl Qf H locs ls X kk => lv_ifnull X.1 X.2.1 hd kk) k
theorem Go.ifnonnull_n {off : Int} (hd : decode M.2.1 pc = .ok (.ifnonnull off, 3)) (k : Go M R E (pc + 3, lv, st, w)) : Go M R E (pc, lv, .null :: st, w) :=
  gx_topstk (fun p l e s m args below meth c ad cl sl Qf H locs ls X kk => lv_ifnonnullN X.1 X.2.1 hd kk) k
theorem Go.ifnonnull_y {off : Int} {a : Nat} (tgt : Nat) (hd : decode M.2.1 pc = .ok (.ifnonnull off, 3)) (ht : (pc : Int) + off = (tgt : Int)) (k : Go M R E (tgt, lv, st, w)) : Go M R E (pc, lv, .ref a :: st, w) :=
  gx_topstk (fun p l e s m args below meth c ad cl sl Qf H locs ls X kk => lv_ifnonnull X.1 X.2.1 hd ht kk) k
/-- a table switch: the row of targets by the number, or the default -/
theorem Go.tsw {x : Int32} {dflt lo hi : Int} {offs : Array Int} {len : Nat} (hd : decode M.2.1 pc = .ok (.tableswitch dflt lo hi offs, len)) (td : Nat) (htd : (pc : Int) + dflt = (td : Int)) (ts : List Nat) (hts : ∀ j : Nat, j < (hi - lo + 1).toNat → ∃ off t, offs[j]? = some off ∧ ts[j]? = some t ∧ (pc : Int) + off = (t : Int))
    (ko : (x.toInt < lo ∨ hi < x.toInt) → Go M R E (td, lv, st, w)) (ki : ∀ (j t : Nat), ts[j]? = some t → x.toInt = lo + j → j < (hi - lo + 1).toNat → Go M R E (t, lv, st, w)) : Go M R E (pc, lv, .int x :: st, w) := by
  by_cases h : x.toInt < lo ∨ hi < x.toInt
  · exact gx_topstk (fun p l e s m args below meth c ad cl sl Qf H locs ls X kk => lv_tableOut X.1 X.2.1 hd h htd kk) (ko h)
  · have h1 : ¬ x.toInt < lo := fun q => h (Or.inl q)
    have h2 : ¬ hi < x.toInt := fun q => h (Or.inr q)
    obtain ⟨off, t, o1, o2, o3⟩ := hts (x.toInt - lo).toNat (by omega)
    exact gx_topstk (fun p l e s m args below meth c ad cl sl Qf H locs ls X kk => lv_tableIn X.1 X.2.1 hd h1 h2 o1 o3 kk) (ki (x.toInt - lo).toNat t o2 (by omega) (by omega))
end Flow
/-- the outcome of a method: what it answers, and the world behind it -/
def gQ (D : va_G) (ad : Nat → Nat) (cA : Nat → ClassId) (A : Nat → Prop) (Q : Option Value → gW → Prop) : Array Value → State → Outcome → State → Prop := fun _ s o t =>
  (∃ (r : Option Value) (w : gW), o = .returned (r.map (gv ad)) ∧ Q r w ∧ va_P D vwCl (gw ad cA w) t.heap ∧ va_K D vwCl (gT cA) t ∧ va_D A (gw ad cA w)) ∧ va_F A s t
/-- a method's contract: on this world, with these arguments, an answer and a world of Q -/
def Ct (M : gM) (R : Room) (av : List Value) (w : gW) (Q : Option Value → gW → Prop) : Prop :=
  ∀ (l : Launch) (D : va_G) (ad : Nat → Nat) (cA : Nat → ClassId) (sz : Nat), Met l M.1 (gws M) R (va_Pc (av.map (gv ad)) (fun U => U.heap.size = sz ∧ va_P D vwCl (gw ad cA w) U.heap ∧ va_K D vwCl (gT cA) U ∧ va_D (fun _ => True) (gw ad cA w) ∧ gN U)) (gQ D ad cA (va_A (gw ad cA w) sz) Q) 0 0 (va_A (gw ad cA w) sz)
/-- a state at a return instruction, with an answer of Q -/
def gRet (M : gM) (Q : Option Value → gW → Prop) (x : gS) : Prop := match M.2.2.2, x.2.2.1 with
  | none, [] => decode M.2.1 x.1 = .ok (.return_, 1) ∧ Q none x.2.2.2
  | some .int, [.int v] => decode M.2.1 x.1 = .ok (.ireturn, 1) ∧ Q (some (.int v)) x.2.2.2
  | some .boolean, [.int v] => decode M.2.1 x.1 = .ok (.ireturn, 1) ∧ v &&& 1 = v ∧ Q (some (.int v)) x.2.2.2
  | some .long, [.long v] => decode M.2.1 x.1 = .ok (.lreturn, 1) ∧ Q (some (.long v)) x.2.2.2
  | some (.object _), [.ref a] => decode M.2.1 x.1 = .ok (.areturn, 1) ∧ Q (some (.ref a)) x.2.2.2
  | some (.object _), [.null] => decode M.2.1 x.1 = .ok (.areturn, 1) ∧ Q (some .null) x.2.2.2
  | _, _ => False
theorem gl_args (ad : Nat → Nat) : ∀ (vs : List Value) (i : Nat), lv_args i (vs.map (gv ad)) = (lv_args i vs).map (gl ad)
  | [], _ => rfl
  | v :: vs, i => by
    simp only [List.map, lv_args, gv_cat, gl_args ad vs]
    rfl
theorem gl_slots (ad : Nat → Nat) : ∀ (vs : List Value), (lg_sl (vs.map (gv ad))).length = (lg_sl vs).length
  | [] => rfl
  | v :: vs => by
    have ih := gl_slots ad vs
    simp only [lg_sl, List.map, List.flatMap_cons, List.length_append] at ih ⊢
    rw [ih, gv_cat]
    by_cases h : v.category = 2
    · simp [h]
    · simp [h]
theorem Ct.of {M : gM} {R : Room} {av : List Value} {w : gW} {Q : Option Value → gW → Prop} (hy : plainName M.1.cls = true) (hn : (lg_sl av).length ≤ M.2.2.1) (h : Go M R (gRet M Q) (0, lv_args 0 av, [], w)) : Ct M R av w Q := by
  intro l D ad cA sz
  refine Met.ofW (cc := M.2.1) (maxL := M.2.2.1) (ret := M.2.2.2) hy rfl ?_
  intro p e s m args below meth c s₁ B hml hv
  obtain ⟨rfl, hsz, hP, hK, hD0, hN⟩ := hv
  have hts := atoms_spec (ws := gws M) B.pre
  have hown : s.vm.findClass M.1.cls = some m.cls := findClass_of_methodNamed B.named
  have hlocks := B.notSynchronized
  subst hsz
  have hD := hD0.self (sz := s.heap.size)
  generalize hAe : va_A (gw ad cA w) s.heap.size = A at hD ⊢
  have hA : ∀ q : Nat, s.heap.size ≤ q → A q := fun q h => by rw [← hAe]; exact Or.inr h
  have hl := lv_entry (av.map (gv ad)) (n := M.2.2.1) (by rw [gl_slots]; exact hn)
  rw [lg_entry_eq]
  generalize (lg_sl (av.map (gv ad)) ++ List.replicate (M.2.2.1 - (lg_sl (av.map (gv ad))).length) Slot.unset).toArray = ls at hl ⊢
  rw [gl_args] at hl
  have X : gX M p s m (av.map (gv ad)).toArray meth c := ⟨B.exec, B.bytes, B.returns, hml, hown, fun w hw => hts w (List.mem_cons_of_mem _ hw), hlocks, hN⟩
  refine h p l e s m _ below meth c D ad cA A s.heap 0 0 _ X (Nat.zero_le _) (Nat.zero_le _) hA ?_ s.heap [] ls ⟨hK, hP, hD, va_S.rf, hl⟩
  intro y H locs ls hE hI
  obtain ⟨pc, lv, st, w2⟩ := y
  have hfin : ∀ (r : Option Value), Q r w2 → ∀ t : State, t.heap = H → s.WarmedH t.vm → gQ D ad cA A Q (av.map (gv ad)).toArray s (.returned (r.map (gv ad))) t := by
    intro r hr t ht hW
    refine ⟨⟨r, w2, rfl, hr, ?_, va_K.moved hW.alike hI.1, hI.2.2.1⟩, hI.2.2.2.1.F ht⟩
    rw [ht]
    exact hI.2.1
  unfold gRet at hE
  split at hE
  · rename_i h1 h2
    have h2 : st = [] := h2
    subst h2
    exact W.vret X.1 X.2.1 (X.2.2.1.trans h1) (hfin none hE.2) hI.2.2.2.1.2.2 hE.1
  · rename_i v h1 h2
    have h2 : st = [.int v] := h2
    subst h2
    exact W.iret X.1 X.2.1 (X.2.2.1.trans h1) (hfin (some (.int v)) hE.2) hI.2.2.2.1.2.2 hE.1
  · rename_i v h1 h2
    have h2 : st = [.int v] := h2
    subst h2
    exact W.zret X.1 X.2.1 (X.2.2.1.trans h1) (by show Value.int (v &&& 1) = _; rw [hE.2.1]) (hfin (some (.int v)) hE.2.2) hI.2.2.2.1.2.2 hE.1
  · rename_i v h1 h2
    have h2 : st = [.long v] := h2
    subst h2
    exact W.lret X.1 X.2.1 (X.2.2.1.trans h1) (hfin (some (.long v)) hE.2) hI.2.2.2.1.2.2 hE.1
  · rename_i n a h1 h2
    have h2 : st = [.ref a] := h2
    subst h2
    exact W.aret X.1 X.2.1 (X.2.2.1.trans h1) (Or.inl ⟨_, rfl⟩) (Or.inr ⟨_, rfl⟩) (hfin (some (.ref a)) hE.2) hI.2.2.2.1.2.2 hE.1
  · rename_i n h1 h2
    have h2 : st = [.null] := h2
    subst h2
    exact W.aret X.1 X.2.1 (X.2.2.1.trans h1) (Or.inl ⟨_, rfl⟩) (Or.inl rfl) (hfin (some .null) hE.2) hI.2.2.2.1.2.2 hE.1
  · exact hE.elim
end
section
/-! Calls: the callee's cells are cut out of the caller's world by their places, under the callee's own numbers. -/
def gren (r : Nat → Nat) (q : Nat × gE) : Nat × gE := (r q.1, match q.2 with
  | .inl (t, a) => .inl (t, gA r a)
  | .inr (ci, vs) => .inr (ci, vs.map (gv r)))
theorem gv_comp (ad r : Nat → Nat) (v : Value) : gv (fun k => ad (r k)) v = gv ad (gv r v) := by
  cases v <;> rfl
theorem gA_comp (ad r : Nat → Nat) (a : vp_A) : gA (fun k => ad (r k)) a = gA ad (gA r a) := by
  obtain ⟨n, f | f | f | f | f⟩ := a <;> try rfl
  simp [gA, Function.comp_def]
theorem gq_ren (ad r : Nat → Nat) (cA : Nat → ClassId) (q : Nat × gE) : gq (fun k => ad (r k)) cA q = gq ad cA (gren r q) := by
  obtain ⟨k, ⟨t, a⟩ | ⟨ci, vs⟩⟩ := q
  · simp only [gq, gren, gC, gA_comp]
  · simp only [gq, gren, gC, List.map_map]
    congr 3
    apply List.map_congr_left
    intro v _
    exact gv_comp ad r v
theorem gw_ren (ad r : Nat → Nat) (cA : Nat → ClassId) (w : gW) : gw (fun k => ad (r k)) cA w = gw ad cA (w.map (gren r)) := by
  unfold gw
  rw [List.map_map]
  apply List.map_congr_left
  intro q _
  exact gq_ren ad r cA q
theorem gvs_comp (ad r : Nat → Nat) (vs : List Value) : vs.map (gv (fun k => ad (r k))) = (vs.map (gv r)).map (gv ad) := by
  rw [List.map_map]
  apply List.map_congr_left
  intro v _
  exact gv_comp ad r v
def gput : gW → List Nat → gW → gW
  | w, i :: is, q :: qs => gput (w.set i q) is qs
  | w, _, _ => w
theorem gput_get : ∀ (is : List Nat) (qs w : gW), is.length = qs.length → ∀ (k : Nat) (q : Nat × gE), (gput w is qs)[k]? = some q → (k ∉ is ∧ w[k]? = some q) ∨ ∃ j : Nat, is[j]? = some k ∧ qs[j]? = some q
  | [], [], w, _, k, q, h => Or.inl ⟨List.not_mem_nil, h⟩
  | i :: is, q0 :: qs, w, hl, k, q, h => by
    rcases gput_get is qs (w.set i q0) (by simpa using hl) k q h with ⟨h1, h2⟩ | ⟨j, h1, h2⟩
    · by_cases hk : i = k
      · subst hk
        have h3 : i < w.length := by
          have := (List.getElem?_eq_some_iff.mp h2).1
          simpa using this
        rw [List.getElem?_set_self h3] at h2
        exact Or.inr ⟨0, rfl, h2⟩
      · rw [List.getElem?_set_ne hk] at h2
        refine Or.inl ⟨?_, h2⟩
        intro h3
        rcases List.mem_cons.mp h3 with h3 | h3
        · exact hk h3.symm
        · exact h1 h3
    · exact Or.inr ⟨j + 1, h1, h2⟩
theorem gsub_at {w w2 : gW} {is : List Nat} {r : Nat → Nat} (hs : is.map (fun i => w[i]?) = (w2.map (gren r)).map some) {j : Nat} {q : Nat × gE} (hq : w2[j]? = some q) : ∃ i, is[j]? = some i ∧ w[i]? = some (gren r q) := by
  have h1 : (is.map (fun i => w[i]?))[j]? = some (some (gren r q)) := by
    rw [hs, List.getElem?_map, List.getElem?_map, hq]
    rfl
  rw [List.getElem?_map] at h1
  cases hi : is[j]? with
  | none => rw [hi] at h1; cases h1
  | some i => rw [hi] at h1; exact ⟨i, rfl, Option.some.inj h1⟩
theorem gsub_len {w w2 : gW} {is : List Nat} {r : Nat → Nat} (hs : is.map (fun i => w[i]?) = (w2.map (gren r)).map some) : is.length = w2.length := by
  have := congrArg List.length hs
  simpa using this
theorem gsub_conc {w w2 : gW} {is : List Nat} {r : Nat → Nat} (ad : Nat → Nat) (cA : Nat → ClassId) (hs : is.map (fun i => w[i]?) = (w2.map (gren r)).map some) : is.map (fun i => (gw ad cA w)[i]?) = (gw (fun k => ad (r k)) cA w2).map some := by
  rw [gw_ren ad r cA w2]
  have h1 : is.map (fun i => (gw ad cA w)[i]?) = (is.map (fun i => w[i]?)).map (Option.map (gq ad cA)) := by
    rw [List.map_map]
    apply List.map_congr_left
    intro i _
    simp [gw]
  rw [h1, hs]
  simp [gw]
theorem gP_join {D : va_G} {A0 : Nat → Prop} {ad r : Nat → Nat} {cA : Nat → ClassId} {w w2 w3 : gW} {is : List Nat} {H H1 : Heap} (hP : va_P D vwCl (gw ad cA w) H) (hD : va_D A0 (gw ad cA w)) (hs : is.map (fun i => w[i]?) = (w2.map (gren r)).map some) (hk3 : w3.map (fun q => q.1) = w2.map (fun q => q.1))
    (hk : ∀ q : Nat, q < H.size → ¬ va_A (gw (fun k => ad (r k)) cA w2) H.size q → H1[q]? = H[q]?) (hP1 : va_P D vwCl (gw (fun k => ad (r k)) cA w3) H1) : va_P D vwCl (gw ad cA (gput w is (w3.map (gren r)))) H1 ∧ va_D A0 (gw ad cA (gput w is (w3.map (gren r)))) := by
  have hl3 : w3.length = w2.length := by
    have := congrArg List.length hk3
    simpa using this
  have hlen : is.length = (w3.map (gren r)).length := by rw [List.length_map, hl3]; exact gsub_len hs
  -- every cell of the new world stands where a cell of the old one stood, at the same address
  have key : ∀ (k : Nat) (q : Nat × gE), (gput w is (w3.map (gren r)))[k]? = some q → (k ∉ is ∧ w[k]? = some q) ∨ ∃ (j : Nat) (q3 : Nat × gE), is[j]? = some k ∧ w3[j]? = some q3 ∧ q = gren r q3 ∧ ∃ e, w[k]? = some (q.1, e) := by
    intro k q h
    rcases gput_get is _ w hlen k q h with h1 | ⟨j, h1, h2⟩
    · exact Or.inl h1
    · rw [List.getElem?_map] at h2
      cases h3 : w3[j]? with
      | none => rw [h3] at h2; cases h2
      | some q3 =>
        rw [h3] at h2
        have e : gren r q3 = q := Option.some.inj h2
        have hj : (w2.map (fun q => q.1))[j]? = some q3.1 := by rw [← hk3, List.getElem?_map, h3]; rfl
        rw [List.getElem?_map] at hj
        cases h4 : w2[j]? with
        | none => rw [h4] at hj; cases hj
        | some q2 =>
          rw [h4] at hj
          have e2 : q2.1 = q3.1 := Option.some.inj hj
          obtain ⟨i, h5, h6⟩ := gsub_at hs h4
          rw [h1] at h5
          cases Option.some.inj h5
          refine Or.inr ⟨j, q3, h1, h3, e.symm, (gren r q2).2, ?_⟩
          rw [h6, ← e]
          show some (gren r q2) = some (r q3.1, (gren r q2).2)
          rw [← e2]
          rfl
  have keyA : ∀ (k : Nat) (q : Nat × va_E), (gw ad cA (gput w is (w3.map (gren r))))[k]? = some q → ∃ q0, (gw ad cA w)[k]? = some q0 ∧ q0.1 = q.1 := by
    intro k q h
    unfold gw at h
    rw [List.getElem?_map] at h
    cases h0 : (gput w is (w3.map (gren r)))[k]? with
    | none => rw [h0] at h; cases h
    | some q1 =>
      rw [h0] at h
      have e : gq ad cA q1 = q := Option.some.inj h
      rcases key k q1 h0 with ⟨-, h1⟩ | ⟨j, q3, -, -, -, e9, h1⟩
      · exact ⟨_, gw_at h1, by rw [← e]; rfl⟩
      · exact ⟨_, gw_at h1, by rw [← e]; rfl⟩
  refine ⟨?_, ?_⟩
  · intro k q h
    have h' := h
    unfold gw at h
    rw [List.getElem?_map] at h
    cases h0 : (gput w is (w3.map (gren r)))[k]? with
    | none => rw [h0] at h; cases h
    | some q1 =>
      rw [h0] at h
      have e : gq ad cA q1 = q := Option.some.inj h
      rcases key k q1 h0 with ⟨h2, h1⟩ | ⟨j, q3, h1, h2, h3, -⟩
      · have hat := hP k _ (gw_at (ad := ad) (cA := cA) h1)
        have eq1 : (ad q1.1, gC ad cA q1.2) = q := e
        rw [eq1] at hat
        refine hat.kept (hk q.1 hat.lt ?_)
        rintro (⟨j, e9, h9⟩ | h9)
        · have hc : (is.map (fun i => (gw ad cA w)[i]?))[j]? = some (some (q.1, e9)) := by rw [gsub_conc ad cA hs, List.getElem?_map, h9]; rfl
          rw [List.getElem?_map] at hc
          cases hi : is[j]? with
          | none => rw [hi] at hc; cases hc
          | some i =>
            rw [hi] at hc
            have h10 : (gw ad cA w)[i]? = some (q.1, e9) := Option.some.inj hc
            have h11 : (gw ad cA w)[k]? = some q := by rw [gw_at h1, ← eq1]
            have h12 := hD.1 k i q (q.1, e9) h11 h10 rfl
            subst h12
            exact h2 (List.mem_of_getElem? hi)
        · exact absurd hat.lt (Nat.not_lt.mpr h9)
      · have h4 : (gw (fun k => ad (r k)) cA w3)[j]? = some q := by
          unfold gw
          rw [List.getElem?_map, h2]
          show some (gq _ cA q3) = _
          rw [gq_ren, ← h3, e]
        exact hP1 j q h4
  · refine ⟨fun i j x y hi hj hxy => ?_, fun k q hk => ?_⟩
    · obtain ⟨x0, h1, h2⟩ := keyA i x hi
      obtain ⟨y0, h3, h4⟩ := keyA j y hj
      exact hD.1 i j x0 y0 h1 h3 (by rw [h2, h4]; exact hxy)
    · obtain ⟨q0, h1, h2⟩ := keyA k q hk
      rw [← h2]
      exact hD.2 k q0 h1
/-- a contract whose answer and world are told -/
def Cd (M : gM) (R : Room) (av : List Value) (w : gW) (r : Option Value) (w' : gW) : Prop := Ct M R av w (fun r' w2 => r' = r ∧ w2 = w')
theorem gTB_good : ∀ w ∈ gTB, (w.onTables && w.keeps) = true ∨ ∃ ty, w = .arrayClass ty := fun w h => good_of_word (List.mem_filter.mp h).2
theorem gGood {L : List Cond} (h : ∀ w ∈ L, w ∈ gTB) : GoodIn gTB L := fun w hw => ⟨h w hw, gTB_good w (h w hw)⟩
/-- how a call is linked: the words of it are in the tables -/
def gNoMH (y : MethodName) (n : Nat) : Prop := y.cls ≠ "java/lang/invoke/MethodHandle" ∧ y.cls ≠ "java/lang/invoke/VarHandle" ∧ (parseMethodDescriptor y.desc).map (fun d => d.parameters.length) = some n
def gLV (own : String) (idx : Nat) (C : String) (M : gM) (n : Nat) : Prop := Cond.methodLink own idx M.1 ∈ gTB ∧ Cond.instanceMethod M.1 ∈ gTB ∧ Cond.selects C M.1 M.1 ∈ gTB ∧ Cond.initialized C ∈ gTB ∧ Cond.code M.1 M.2.1 M.2.2.1 M.2.2.2 ∈ gTB ∧ M.1.cls = C ∧ gNoMH M.1 n
def gLU (own : String) (idx : Nat) (C : String) (x : MethodName) (M : gM) (n : Nat) : Prop := Cond.methodLink own idx x ∈ gTB ∧ Cond.sameMethod x.cls M.1.cls x.name x.desc ∈ gTB ∧ Cond.selects C x M.1 ∈ gTB ∧ Cond.instanceMethod M.1 ∈ gTB ∧ Cond.initialized M.1.cls ∈ gTB ∧ Cond.code M.1 M.2.1 M.2.2.1 M.2.2.2 ∈ gTB ∧ M.1 = ⟨M.1.cls, x.name, x.desc⟩ ∧ gNoMH M.1 n ∧ (parseMethodDescriptor x.desc).map (fun d => d.parameters.length) = some n
def gLS (own : String) (idx : Nat) (M : gM) (n : Nat) : Prop := Cond.methodLink own idx M.1 ∈ gTB ∧ Cond.static M.1 ∈ gTB ∧ Cond.initialized M.1.cls ∈ gTB ∧ Cond.code M.1 M.2.1 M.2.2.1 M.2.2.2 ∈ gTB ∧ gNoMH M.1 n
def gLN (own : String) (idx : Nat) (host : String) (M : gM) (n : Nat) : Prop := (own, idx, M.1, host) ∈ gNest ∧ Cond.static M.1 ∈ gTB ∧ Cond.initialized M.1.cls ∈ gTB ∧ Cond.code M.1 M.2.1 M.2.2.1 M.2.2.2 ∈ gTB ∧ gNoMH M.1 n
/-- the callee's room fits -/
def gRoom (R R' : Room) (nL : Nat) : Prop := R'.cells = 0 ∧ R'.slots = 0 ∧ R'.frames + 1 ≤ R.frames ∧ 8 + (nL + 11) + R'.locals ≤ R.locals
section Calls
variable {M M' : gM} {R R' : Room} {E : gS → Prop} {pc : Nat} {lv : List (Nat × Value)} {st : List Value} {w w2 w3 : gW} {av : List Value} {rr : Option Value} {idx n : Nat}
theorem gPc_blind {D : va_G} {ad : Nat → Nat} {cA : Nat → ClassId} {sz : Nat} {as : List Value} : FrameBlind (va_Pc as (fun U => U.heap.size = sz ∧ va_P D vwCl (gw ad cA w) U.heap ∧ va_K D vwCl (gT cA) U ∧ va_D (fun _ => True) (gw ad cA w) ∧ gN U)) := by
  intro a U g mk q
  obtain ⟨q0, q1, qP, qK, qD, qN⟩ := q
  refine ⟨q0, q1, qP, va_K.moved (u := U) (U := U.calling g mk a) (Vm.Alike.refl U.vm) qK, qD, fun z hz => ?_⟩
  exact va_Nw.same (u := U) (U := U.calling g mk a) rfl rfl (qN z hz)
theorem gx_call {r : Nat → Nat} {is : List Nat} (hs : is.map (fun i => w[i]?) = (w2.map (gren r)).map some) (hnd : va_nd is = true) (hk3 : w3.map (fun q => q.1) = w2.map (fun q => q.1)) (st0 : List Value)
    (hrun : ∀ (p : Program) (l : Launch) (e : Env) (s : State) (m : MethodId) (args : Array Value) (below : List Frame) (meth : Method) (c : Code) (D : va_G) (ad : Nat → Nat) (cA : Nat → ClassId) (cl sl : Nat) (H : Heap) (locs : List Loc) (ls : Array Slot), gX M p s m args meth c → cl ≤ R.cells → sl ≤ R.slots → va_K D vwCl (gT cA) s → va_P D vwCl (gw (fun k => ad (r k)) cA w2) H → va_D (fun _ => True) (gw (fun k => ad (r k)) cA w2) → ls.size = M.2.2.1 →
      ∃ a, va_Run p l e R s m args below meth c H locs cl sl 0 0 (F0 m pc ls (st0.map (gv ad))) (st.map (gv ad)) (gQ D (fun k => ad (r k)) cA (va_A (gw (fun k => ad (r k)) cA w2) H.size) (fun r' w' => r' = rr ∧ w' = w3) a) (va_A (gw (fun k => ad (r k)) cA w2) H.size))
    (k : Go M R E (pc + 3, lv, (rr.map (gv r)).toList ++ st, gput w is (w3.map (gren r)))) : Go M R E (pc, lv, st0, w) := by
  intro p l e s m args below meth c D ad cA A H0 cl sl Qf X hc hsl hA kE H locs ls hN
  obtain ⟨hK, hP, hD, hS, hl⟩ := hN
  have hconc := gsub_conc ad cA hs
  have hPc : va_P D vwCl (gw (fun k => ad (r k)) cA w2) H := by
    intro k q hq
    have h1 : (is.map (fun i => (gw ad cA w)[i]?))[k]? = some (some q) := by rw [hconc, List.getElem?_map, hq]; rfl
    rw [List.getElem?_map] at h1
    cases hi : is[k]? with
    | none => rw [hi] at h1; cases h1
    | some i => rw [hi] at h1; exact hP i q (Option.some.inj h1)
  have hDc := hD.sub is hnd hconc
  have hFc := va_free hD hS hA is hconc
  obtain ⟨a, hr⟩ := hrun p l e s m args below meth c D ad cA cl sl H locs ls X hc hsl hK hPc (hDc.weaken (fun _ _ _ _ => trivial)) hl.1
  intro T hT XT
  obtain ⟨v, st₀, t, T', L, h0, X', hL, e1, e2, ⟨⟨r1, w1, hv, ⟨q1, q2⟩, hP1, hK1, hD1⟩, hz, hk⟩, stp⟩ := hr T hT XT
  rw [q1] at hv
  rw [q2] at hP1 hD1
  cases hv
  rw [h0] at hz hk
  have hS' : va_S A H0 T'.heap (locs ++ L) := ⟨Nat.le_trans hS.1 (by rw [e1]; exact hz), fun q h1 h2 => by rw [e1, hk q (Nat.lt_of_lt_of_le h1 hS.1) (fun z => h2 (hFc q z))]; exact hS.2.1 q h1 h2, fun q hq => by
      rcases List.mem_append.mp hq with h | h
      · exact hS.2.2 q h
      · exact hFc _ (hL q h)⟩
  obtain ⟨j1, j2⟩ := gP_join (H1 := T'.heap) hP hD hs hk3 (fun q h1 h2 => by rw [e1]; exact hk q h1 h2) (by rw [e1]; exact hP1)
  obtain ⟨t2, a1, b1⟩ := k p l e s m args below meth c D ad cA A H0 cl sl Qf X hc hsl hA kE T'.heap (locs ++ L) ls ⟨hK, j1, j2, hS', hl⟩ T' rfl X'
  refine ⟨t2, stp t2 ?_, b1⟩
  have e9 : ((rr.map (gv r)).toList ++ st).map (gv ad) = (rr.map (gv (fun k => ad (r k)))).toList ++ st.map (gv ad) := by
    cases rr with
    | none => rfl
    | some u =>
      simp only [Option.map, Option.toList, List.map_append, List.map]
      rw [gv_comp ad r u]
  rw [e9] at a1
  exact a1
theorem gRoom.go {nL : Nat} (h : gRoom R R' nL) {cl sl : Nat} (hc : cl ≤ R.cells) (hs : sl ≤ R.slots) : cl + 0 ≤ R.cells ∧ sl + 0 ≤ R.slots := ⟨hc, hs⟩
theorem gst_cat (ad : Nat → Nat) (st : List Value) : ((st.map (gv ad)).map fun v => v.category) = st.map fun v => v.category := by
  rw [List.map_map]
  apply List.map_congr_left
  intro v _
  exact gv_cat ad v
/-- a static call -/
theorem Go.callS (hC : Cd M' R' av w2 rr w3) (hL : gLS M.1.cls idx M' n) (r : Nat → Nat) (is : List Nat) (hs : is.map (fun i => w[i]?) = (w2.map (gren r)).map some) (hnd : va_nd is = true) (hk3 : w3.map (fun q => q.1) = w2.map (fun q => q.1)) (hn : av.length = n) (hR : gRoom R R' M'.2.2.1) (hW : (st.map fun v => v.category).sum ≤ 8) (hd : decode M.2.1 pc = .ok (.invokestatic idx, 3)) (k : Go M R E (pc + 3, lv, (rr.map (gv r)).toList ++ st, gput w is (w3.map (gren r)))) : Go M R E (pc, lv, (av.map (gv r)).reverse ++ st, w) := by
  obtain ⟨l1, l2, l3, l4, l5⟩ := hL
  refine gx_call (rr := rr) hs hnd hk3 _ (fun p l e s m args below meth c D ad cA cl sl H locs ls X hc hsl hK hP hD hls => ?_) k
  refine ⟨_, va_runS (As := av.map (gv (fun k => ad (r k)))) (n := n) (Ts := gTB) ⟨X.1, X.2.1, X.2.2.2.1, X.2.2.2.2.1, X.2.2.2.2.2.1⟩ (hC l D (fun k => ad (r k)) cA H.size) (va_cwS n X.2.2.2.2.2.1 (gGood ?_) rfl hR.1 hR.2.1 l5 hR.2.2) ⟨gPc_blind, fun U hU hW => ⟨rfl, by rw [hU], by rw [hU]; exact hP, va_K.moved hW.alike hK, hD, fun z hz => va_Nw.warmM hW (X.2.2.2.2.2.2.2 z hz)⟩⟩ rfl (by rw [List.length_map]; exact hn) hls ?_ (lv_room (by rw [gst_cat]; exact hW)) hd ⟨hc, hsl⟩⟩
  · intro w hw
    simp only [va_wsS, gws, List.cons_append, List.nil_append, List.mem_cons] at hw
    rcases hw with rfl | rfl | rfl | rfl | hw
    · exact l1
    · exact l2
    · exact l3
    · exact l4
    · exact hw
  · show ((av.map (gv r)).reverse ++ st).map (gv ad) = _
    rw [List.map_append, List.map_reverse, ← gvs_comp]
/-- a call of a method of the receiver's own class -/
theorem Go.callV {b ci : Nat} {fs : List Value} (hC : Cd M' R' (.ref b :: av) w2 rr w3) {C : String} (hL : gLV M.1.cls idx C M' n) {T : u_T} {N : Nat} (j : Nat) (hb : w2[j]? = some (b, .inr (ci, fs))) (hci : vwCl[ci]? = some (C, T, N)) (r : Nat → Nat) (is : List Nat) (hs : is.map (fun i => w[i]?) = (w2.map (gren r)).map some) (hnd : va_nd is = true) (hk3 : w3.map (fun q => q.1) = w2.map (fun q => q.1)) (hn : av.length = n) (hR : gRoom R R' M'.2.2.1) (hW : (st.map fun v => v.category).sum ≤ 8) (hd : decode M.2.1 pc = .ok (.invokevirtual idx, 3)) (k : Go M R E (pc + 3, lv, (rr.map (gv r)).toList ++ st, gput w is (w3.map (gren r)))) : Go M R E (pc, lv, (av.map (gv r)).reverse ++ .ref (r b) :: st, w) := by
  obtain ⟨l1, l2, l3, l4, l5, l6, l7⟩ := hL
  refine gx_call (rr := rr) hs hnd hk3 _ (fun p l e s m args below meth c D ad cA cl sl H locs ls X hc hsl hK hP hD hls => ?_) k
  refine ⟨_, va_runV (As := av.map (gv (fun k => ad (r k)))) (b := ad (r b)) (n := n) (Ts := gTB) ⟨X.1, X.2.1, X.2.2.2.1, X.2.2.2.2.1, X.2.2.2.2.2.1⟩ (hC l D (fun k => ad (r k)) cA H.size) (cwV n X.2.2.2.2.2.1 (gGood ?_) rfl hR.1 hR.2.1 ⟨l6, l7⟩ hR.2.2) ⟨gPc_blind, va_recv hK hP hci (gw_at hb), fun U hU hW => ⟨rfl, by rw [hU], by rw [hU]; exact hP, va_K.moved hW.alike hK, hD, fun z hz => va_Nw.warmM hW (X.2.2.2.2.2.2.2 z hz)⟩⟩ rfl (by rw [List.length_map]; exact hn) hls ?_ (lv_room (by rw [gst_cat]; exact hW)) hd ⟨hc, hsl⟩⟩
  · intro w hw
    simp only [wsV, gws, List.cons_append, List.nil_append, List.mem_cons] at hw
    rcases hw with rfl | rfl | rfl | rfl | rfl | hw
    · exact l1
    · exact l2
    · exact l3
    · exact l4
    · exact l5
    · exact hw
  · show ((av.map (gv r)).reverse ++ .ref (r b) :: st).map (gv ad) = _
    rw [List.map_append, List.map_reverse, ← gvs_comp]
    rfl
/-- a call of a method that the receiver's class has from above -/
theorem Go.callU {b ci : Nat} {fs : List Value} (hC : Cd M' R' (.ref b :: av) w2 rr w3) {C : String} {x : MethodName} (hL : gLU M.1.cls idx C x M' n) {T : u_T} {N : Nat} (j : Nat) (hb : w2[j]? = some (b, .inr (ci, fs))) (hci : vwCl[ci]? = some (C, T, N)) (r : Nat → Nat) (is : List Nat) (hs : is.map (fun i => w[i]?) = (w2.map (gren r)).map some) (hnd : va_nd is = true) (hk3 : w3.map (fun q => q.1) = w2.map (fun q => q.1)) (hn : av.length = n) (hR : gRoom R R' M'.2.2.1) (hW : (st.map fun v => v.category).sum ≤ 8) (hd : decode M.2.1 pc = .ok (.invokevirtual idx, 3)) (k : Go M R E (pc + 3, lv, (rr.map (gv r)).toList ++ st, gput w is (w3.map (gren r)))) : Go M R E (pc, lv, (av.map (gv r)).reverse ++ .ref (r b) :: st, w) := by
  obtain ⟨l1, l2, l3, l4, l5, l6, l7, l8, l9⟩ := hL
  refine gx_call (rr := rr) hs hnd hk3 _ (fun p l e s m args below meth c D ad cA cl sl H locs ls X hc hsl hK hP hD hls => ?_) k
  refine ⟨_, va_runU (As := av.map (gv (fun k => ad (r k)))) (b := ad (r b)) (n := n) (Ts := gTB) ⟨X.1, X.2.1, X.2.2.2.1, X.2.2.2.2.1, X.2.2.2.2.2.1⟩ (hC l D (fun k => ad (r k)) cA H.size) (va_cwU (owner := M'.1.cls) n X.2.2.2.2.2.1 (gGood ?_) rfl hR.1 hR.2.1 l7 ⟨l8.1, l8.2.1, l9⟩ hR.2.2) ⟨gPc_blind, va_recv hK hP hci (gw_at hb), fun U hU hW => ⟨rfl, by rw [hU], by rw [hU]; exact hP, va_K.moved hW.alike hK, hD, fun z hz => va_Nw.warmM hW (X.2.2.2.2.2.2.2 z hz)⟩⟩ rfl (by rw [List.length_map]; exact hn) hls ?_ (lv_room (by rw [gst_cat]; exact hW)) hd ⟨hc, hsl⟩⟩
  · intro w hw
    simp only [va_wsU, gws, List.cons_append, List.nil_append, List.mem_cons] at hw
    rcases hw with rfl | rfl | rfl | rfl | rfl | rfl | hw
    · exact l1
    · exact l2
    · exact l3
    · exact l4
    · exact l5
    · exact l6
    · exact hw
  · show ((av.map (gv r)).reverse ++ .ref (r b) :: st).map (gv ad) = _
    rw [List.map_append, List.map_reverse, ← gvs_comp]
    rfl
/-- a static call of a private method of a nest mate -/
theorem Go.callN (hC : Cd M' R' av w2 rr w3) {host : String} (hL : gLN M.1.cls idx host M' n) (r : Nat → Nat) (is : List Nat) (hs : is.map (fun i => w[i]?) = (w2.map (gren r)).map some) (hnd : va_nd is = true) (hk3 : w3.map (fun q => q.1) = w2.map (fun q => q.1)) (hn : av.length = n) (hR : gRoom R R' M'.2.2.1) (hW : (st.map fun v => v.category).sum ≤ 8) (hd : decode M.2.1 pc = .ok (.invokestatic idx, 3)) (k : Go M R E (pc + 3, lv, (rr.map (gv r)).toList ++ st, gput w is (w3.map (gren r)))) : Go M R E (pc, lv, (av.map (gv r)).reverse ++ st, w) := by
  obtain ⟨l1, l2, l3, l4, l5⟩ := hL
  refine gx_call (rr := rr) hs hnd hk3 _ (fun p l e s m args below meth c D ad cA cl sl H locs ls X hc hsl hK hP hD hls => ?_) k
  refine ⟨_, va_runSN (host := host) (As := av.map (gv (fun k => ad (r k)))) (n := n) (Ts := gTB) ⟨X.1, X.2.1, X.2.2.2.1, X.2.2.2.2.1, X.2.2.2.2.2.1⟩ (hC l D (fun k => ad (r k)) cA H.size) ⟨va_cnB n X.2.2.2.2.2.1 (gGood ?_) rfl hR.1 hR.2.1 (X.2.2.2.2.2.2.2 _ l1) (X.2.2.2.2.2.1 _ l3) l5 hR.2.2, X.2.2.2.2.2.1 _ l2, trivial⟩ ⟨gPc_blind, fun U hU hW => ⟨rfl, by rw [hU], by rw [hU]; exact hP, va_K.moved hW.alike hK, hD, fun z hz => va_Nw.warmM hW (X.2.2.2.2.2.2.2 z hz)⟩⟩ rfl (by rw [List.length_map]; exact hn) hls ?_ (lv_room (by rw [gst_cat]; exact hW)) hd ⟨hc, hsl⟩⟩
  · intro w hw
    simp only [gws, List.mem_cons] at hw
    rcases hw with rfl | hw
    · exact l4
    · exact hw
  · show ((av.map (gv r)).reverse ++ st).map (gv ad) = _
    rw [List.map_append, List.map_reverse, ← gvs_comp]
end Calls
end
section
/-! Written by wip/gen/links.py: the pools of the classes, the methods and their instructions, how calls are linked. -/
theorem gTB_mem {w : Cond} (i : Nat) (h : lw_tbl[i]? = some w) (hg : goodWord w = true) : w ∈ gTB := List.mem_filter.mpr ⟨List.mem_of_getElem? h, hg⟩
theorem gTB_all (ws : List Cond) (ps : List Nat) (hp : ws = ps.filterMap (fun i => lw_tbl[i]?)) (h : ws.all goodWord = true) : ∀ w ∈ ws, w ∈ gTB := by
  intro w hw
  have h1 := List.all_eq_true.mp h w hw
  rw [hp] at hw
  obtain ⟨i, -, hi⟩ := List.mem_filterMap.mp hw
  exact gTB_mem i hi h1
theorem uX0 : ∀ w ∈ u_ws RX0 TX0 3, w ∈ gTB := gTB_all _ [183, 185, 187] (by decide +kernel) (by decide +kernel)
theorem uX1 : ∀ w ∈ u_ws RX1 TX1 2, w ∈ gTB := gTB_all _ [78, 80] (by decide +kernel) (by decide +kernel)
theorem uX2 : ∀ w ∈ u_ws RX2 TX2 6, w ∈ gTB := gTB_all _ [111, 113, 115, 117, 107, 109] (by decide +kernel) (by decide +kernel)
theorem uX3 : ∀ w ∈ u_ws RX3 TX3 3, w ∈ gTB := gTB_all _ [201, 203, 205] (by decide +kernel) (by decide +kernel)
theorem uX4 : ∀ w ∈ u_ws RX4 TX4 4, w ∈ gTB := gTB_all _ [123, 124, 125, 126] (by decide +kernel) (by decide +kernel)
theorem uX5 : ∀ w ∈ u_ws RX5 TX5 5, w ∈ gTB := gTB_all _ [140, 142, 144, 146, 148] (by decide +kernel) (by decide +kernel)
theorem uX6 : ∀ w ∈ u_ws RX6 TX6 3, w ∈ gTB := gTB_all _ [218, 220, 222] (by decide +kernel) (by decide +kernel)
theorem uX7 : ∀ w ∈ u_ws RX7 TX7 4, w ∈ gTB := gTB_all _ [161, 163, 165, 167] (by decide +kernel) (by decide +kernel)
theorem uX8 : ∀ w ∈ u_ws RX8 TX8 10, w ∈ gTB := gTB_all _ [236, 238, 240, 242, 244, 246, 248, 250, 252, 254] (by decide +kernel) (by decide +kernel)
theorem uX9 : ∀ w ∈ u_ws RX9 TX9 31, w ∈ gTB := gTB_all _ [796, 798, 800, 802, 804, 806, 808, 810, 812, 814, 816, 818, 820, 822, 824, 826, 828, 830, 832, 834, 836, 838, 840, 842, 844, 846, 848, 850, 852, 854, 856] (by decide +kernel) (by decide +kernel)
def IX0 : gI := ([(11, 0, 0), (28, 0, 1), (17, 0, 2)], [], [])
theorem IX0_f0 : gFok RX0 (11, 0, 0) := ⟨RX0, TX0, 3, "PointingArms$Cover", tyX0, rfl, by decide, gTB_mem 180 (by decide +kernel) rfl, Or.inl rfl, uX0, tyX0_ok, nmX0⟩
theorem IX0_f1 : gFok RX0 (28, 0, 1) := ⟨RX0, TX0, 3, "PointingArms$Cover", tyX0, rfl, by decide, gTB_mem 181 (by decide +kernel) rfl, Or.inl rfl, uX0, tyX0_ok, nmX0⟩
theorem IX0_f2 : gFok RX0 (17, 0, 2) := ⟨RX0, TX0, 3, "PointingArms$Cover", tyX0, rfl, by decide, gTB_mem 182 (by decide +kernel) rfl, Or.inl rfl, uX0, tyX0_ok, nmX0⟩
theorem IX0_ok : gIok RX0 IX0 := ⟨List.forall_mem_cons.mpr ⟨IX0_f0, List.forall_mem_cons.mpr ⟨IX0_f1, List.forall_mem_cons.mpr ⟨IX0_f2, fun _ h => absurd h List.not_mem_nil⟩⟩⟩, fun _ h => absurd h List.not_mem_nil, fun _ h => absurd h List.not_mem_nil⟩
def IX1 : gI := ([(9, 1, 0), (13, 1, 1)], [], [])
theorem IX1_f0 : gFok RX1 (9, 1, 0) := ⟨RX1, TX1, 2, "PointingArms$Fan", tyX1, rfl, by decide, gTB_mem 76 (by decide +kernel) rfl, Or.inl rfl, uX1, tyX1_ok, nmX1⟩
theorem IX1_f1 : gFok RX1 (13, 1, 1) := ⟨RX1, TX1, 2, "PointingArms$Fan", tyX1, rfl, by decide, gTB_mem 77 (by decide +kernel) rfl, Or.inl rfl, uX1, tyX1_ok, nmX1⟩
theorem IX1_ok : gIok RX1 IX1 := ⟨List.forall_mem_cons.mpr ⟨IX1_f0, List.forall_mem_cons.mpr ⟨IX1_f1, fun _ h => absurd h List.not_mem_nil⟩⟩, fun _ h => absurd h List.not_mem_nil, fun _ h => absurd h List.not_mem_nil⟩
def IX2 : gI := ([(15, 2, 4), (11, 2, 5), (18, 2, 2)], [], [])
theorem IX2_f0 : gFok RX2 (15, 2, 4) := ⟨RX2, TX2, 6, "PointingArms$Field", tyX2, rfl, by decide, gTB_mem 99 (by decide +kernel) rfl, Or.inl rfl, uX2, tyX2_ok, nmX2⟩
theorem IX2_f1 : gFok RX2 (11, 2, 5) := ⟨RX2, TX2, 6, "PointingArms$Field", tyX2, rfl, by decide, gTB_mem 100 (by decide +kernel) rfl, Or.inl rfl, uX2, tyX2_ok, nmX2⟩
theorem IX2_f2 : gFok RX2 (18, 2, 2) := ⟨RX2, TX2, 6, "PointingArms$Field", tyX2, rfl, by decide, gTB_mem 104 (by decide +kernel) rfl, Or.inr (gTB_mem 105 (by decide +kernel) rfl), uX2, tyX2_ok, nmX2⟩
theorem IX2_ok : gIok RX2 IX2 := ⟨List.forall_mem_cons.mpr ⟨IX2_f0, List.forall_mem_cons.mpr ⟨IX2_f1, List.forall_mem_cons.mpr ⟨IX2_f2, fun _ h => absurd h List.not_mem_nil⟩⟩⟩, fun _ h => absurd h List.not_mem_nil, fun _ h => absurd h List.not_mem_nil⟩
def IX3 : gI := ([(25, 5, 0), (34, 5, 3), (12, 3, 0), (18, 3, 1), (22, 3, 2)], [], [])
theorem IX3_f0 : gFok RX3 (25, 5, 0) := ⟨RX5, TX5, 5, "PointingArms$Scene", tyX5, rfl, by decide, gTB_mem 130 (by decide +kernel) rfl, Or.inl rfl, uX5, tyX5_ok, nmX5⟩
theorem IX3_f1 : gFok RX3 (34, 5, 3) := ⟨RX5, TX5, 5, "PointingArms$Scene", tyX5, rfl, by decide, gTB_mem 136 (by decide +kernel) rfl, Or.inl rfl, uX5, tyX5_ok, nmX5⟩
theorem IX3_f2 : gFok RX3 (12, 3, 0) := ⟨RX3, TX3, 3, "PointingArms$Layout", tyX3, rfl, by decide, gTB_mem 198 (by decide +kernel) rfl, Or.inl rfl, uX3, tyX3_ok, nmX3⟩
theorem IX3_f3 : gFok RX3 (18, 3, 1) := ⟨RX3, TX3, 3, "PointingArms$Layout", tyX3, rfl, by decide, gTB_mem 199 (by decide +kernel) rfl, Or.inl rfl, uX3, tyX3_ok, nmX3⟩
theorem IX3_f4 : gFok RX3 (22, 3, 2) := ⟨RX3, TX3, 3, "PointingArms$Layout", tyX3, rfl, by decide, gTB_mem 200 (by decide +kernel) rfl, Or.inl rfl, uX3, tyX3_ok, nmX3⟩
theorem IX3_ok : gIok RX3 IX3 := ⟨List.forall_mem_cons.mpr ⟨IX3_f0, List.forall_mem_cons.mpr ⟨IX3_f1, List.forall_mem_cons.mpr ⟨IX3_f2, List.forall_mem_cons.mpr ⟨IX3_f3, List.forall_mem_cons.mpr ⟨IX3_f4, fun _ h => absurd h List.not_mem_nil⟩⟩⟩⟩⟩, fun _ h => absurd h List.not_mem_nil, fun _ h => absurd h List.not_mem_nil⟩
def IX4 : gI := ([(7, 2, 0), (7, 4, 0), (13, 2, 1), (13, 4, 1), (16, 2, 2), (16, 4, 2), (20, 2, 3), (20, 4, 3)], [], [])
theorem IX4_f0 : gFok RX4 (7, 2, 0) := ⟨RX2, TX2, 6, "PointingArms$Rows", tyX2, rfl, by decide, gTB_mem 101 (by decide +kernel) rfl, Or.inl rfl, uX2, tyX2_ok, nmX2⟩
theorem IX4_f1 : gFok RX4 (7, 4, 0) := ⟨RX4, TX4, 4, "PointingArms$Rows", tyX4, rfl, by decide, gTB_mem 101 (by decide +kernel) rfl, Or.inl rfl, uX4, tyX4_ok, nmX4⟩
theorem IX4_f2 : gFok RX4 (13, 2, 1) := ⟨RX2, TX2, 6, "PointingArms$Rows", tyX2, rfl, by decide, gTB_mem 102 (by decide +kernel) rfl, Or.inl rfl, uX2, tyX2_ok, nmX2⟩
theorem IX4_f3 : gFok RX4 (13, 4, 1) := ⟨RX4, TX4, 4, "PointingArms$Rows", tyX4, rfl, by decide, gTB_mem 102 (by decide +kernel) rfl, Or.inl rfl, uX4, tyX4_ok, nmX4⟩
theorem IX4_f4 : gFok RX4 (16, 2, 2) := ⟨RX2, TX2, 6, "PointingArms$Rows", tyX2, rfl, by decide, gTB_mem 103 (by decide +kernel) rfl, Or.inl rfl, uX2, tyX2_ok, nmX2⟩
theorem IX4_f5 : gFok RX4 (16, 4, 2) := ⟨RX4, TX4, 4, "PointingArms$Rows", tyX4, rfl, by decide, gTB_mem 103 (by decide +kernel) rfl, Or.inl rfl, uX4, tyX4_ok, nmX4⟩
theorem IX4_f6 : gFok RX4 (20, 2, 3) := ⟨RX2, TX2, 6, "PointingArms$Rows", tyX2, rfl, by decide, gTB_mem 106 (by decide +kernel) rfl, Or.inl rfl, uX2, tyX2_ok, nmX2⟩
theorem IX4_f7 : gFok RX4 (20, 4, 3) := ⟨RX4, TX4, 4, "PointingArms$Rows", tyX4, rfl, by decide, gTB_mem 106 (by decide +kernel) rfl, Or.inl rfl, uX4, tyX4_ok, nmX4⟩
theorem IX4_ok : gIok RX4 IX4 := ⟨List.forall_mem_cons.mpr ⟨IX4_f0, List.forall_mem_cons.mpr ⟨IX4_f1, List.forall_mem_cons.mpr ⟨IX4_f2, List.forall_mem_cons.mpr ⟨IX4_f3, List.forall_mem_cons.mpr ⟨IX4_f4, List.forall_mem_cons.mpr ⟨IX4_f5, List.forall_mem_cons.mpr ⟨IX4_f6, List.forall_mem_cons.mpr ⟨IX4_f7, fun _ h => absurd h List.not_mem_nil⟩⟩⟩⟩⟩⟩⟩⟩, fun _ h => absurd h List.not_mem_nil, fun _ h => absurd h List.not_mem_nil⟩
def IX5 : gI := ([(12, 5, 0), (23, 5, 1), (27, 5, 2), (30, 5, 3), (33, 5, 4)], [], [])
theorem IX5_f0 : gFok RX5 (12, 5, 0) := ⟨RX5, TX5, 5, "PointingArms$Scene", tyX5, rfl, by decide, gTB_mem 128 (by decide +kernel) rfl, Or.inl rfl, uX5, tyX5_ok, nmX5⟩
theorem IX5_f1 : gFok RX5 (23, 5, 1) := ⟨RX5, TX5, 5, "PointingArms$Scene", tyX5, rfl, by decide, gTB_mem 131 (by decide +kernel) rfl, Or.inl rfl, uX5, tyX5_ok, nmX5⟩
theorem IX5_f2 : gFok RX5 (27, 5, 2) := ⟨RX5, TX5, 5, "PointingArms$Scene", tyX5, rfl, by decide, gTB_mem 133 (by decide +kernel) rfl, Or.inl rfl, uX5, tyX5_ok, nmX5⟩
theorem IX5_f3 : gFok RX5 (30, 5, 3) := ⟨RX5, TX5, 5, "PointingArms$Scene", tyX5, rfl, by decide, gTB_mem 135 (by decide +kernel) rfl, Or.inl rfl, uX5, tyX5_ok, nmX5⟩
theorem IX5_f4 : gFok RX5 (33, 5, 4) := ⟨RX5, TX5, 5, "PointingArms$Scene", tyX5, rfl, by decide, gTB_mem 138 (by decide +kernel) rfl, Or.inl rfl, uX5, tyX5_ok, nmX5⟩
theorem IX5_ok : gIok RX5 IX5 := ⟨List.forall_mem_cons.mpr ⟨IX5_f0, List.forall_mem_cons.mpr ⟨IX5_f1, List.forall_mem_cons.mpr ⟨IX5_f2, List.forall_mem_cons.mpr ⟨IX5_f3, List.forall_mem_cons.mpr ⟨IX5_f4, fun _ h => absurd h List.not_mem_nil⟩⟩⟩⟩⟩, fun _ h => absurd h List.not_mem_nil, fun _ h => absurd h List.not_mem_nil⟩
def IX6 : gI := ([(11, 6, 0), (19, 6, 1), (15, 6, 2)], [], [])
theorem IX6_f0 : gFok RX6 (11, 6, 0) := ⟨RX6, TX6, 3, "PointingArms$Sheet", tyX6, rfl, by decide, gTB_mem 215 (by decide +kernel) rfl, Or.inl rfl, uX6, tyX6_ok, nmX6⟩
theorem IX6_f1 : gFok RX6 (19, 6, 1) := ⟨RX6, TX6, 3, "PointingArms$Sheet", tyX6, rfl, by decide, gTB_mem 216 (by decide +kernel) rfl, Or.inl rfl, uX6, tyX6_ok, nmX6⟩
theorem IX6_f2 : gFok RX6 (15, 6, 2) := ⟨RX6, TX6, 3, "PointingArms$Sheet", tyX6, rfl, by decide, gTB_mem 217 (by decide +kernel) rfl, Or.inl rfl, uX6, tyX6_ok, nmX6⟩
theorem IX6_ok : gIok RX6 IX6 := ⟨List.forall_mem_cons.mpr ⟨IX6_f0, List.forall_mem_cons.mpr ⟨IX6_f1, List.forall_mem_cons.mpr ⟨IX6_f2, fun _ h => absurd h List.not_mem_nil⟩⟩⟩, fun _ h => absurd h List.not_mem_nil, fun _ h => absurd h List.not_mem_nil⟩
def IX7 : gI := ([(11, 7, 0), (19, 7, 1), (23, 7, 2), (26, 7, 3)], [], [])
theorem IX7_f0 : gFok RX7 (11, 7, 0) := ⟨RX7, TX7, 4, "PointingArms$Tape", tyX7, rfl, by decide, gTB_mem 157 (by decide +kernel) rfl, Or.inl rfl, uX7, tyX7_ok, nmX7⟩
theorem IX7_f1 : gFok RX7 (19, 7, 1) := ⟨RX7, TX7, 4, "PointingArms$Tape", tyX7, rfl, by decide, gTB_mem 158 (by decide +kernel) rfl, Or.inl rfl, uX7, tyX7_ok, nmX7⟩
theorem IX7_f2 : gFok RX7 (23, 7, 2) := ⟨RX7, TX7, 4, "PointingArms$Tape", tyX7, rfl, by decide, gTB_mem 159 (by decide +kernel) rfl, Or.inl rfl, uX7, tyX7_ok, nmX7⟩
theorem IX7_f3 : gFok RX7 (26, 7, 3) := ⟨RX7, TX7, 4, "PointingArms$Tape", tyX7, rfl, by decide, gTB_mem 160 (by decide +kernel) rfl, Or.inl rfl, uX7, tyX7_ok, nmX7⟩
theorem IX7_ok : gIok RX7 IX7 := ⟨List.forall_mem_cons.mpr ⟨IX7_f0, List.forall_mem_cons.mpr ⟨IX7_f1, List.forall_mem_cons.mpr ⟨IX7_f2, List.forall_mem_cons.mpr ⟨IX7_f3, fun _ h => absurd h List.not_mem_nil⟩⟩⟩⟩, fun _ h => absurd h List.not_mem_nil, fun _ h => absurd h List.not_mem_nil⟩
def IX8 : gI := ([(77, 5, 0), (99, 5, 1), (149, 5, 2), (157, 5, 3), (160, 5, 4), (10, 8, 0), (19, 8, 1), (23, 8, 2), (229, 8, 3), (29, 8, 4), (36, 8, 5), (45, 8, 6), (52, 8, 7), (59, 8, 8), (65, 8, 9)], [(88, -100001)], [(268, -9), (270, 9)])
theorem IX8_f0 : gFok RX8 (77, 5, 0) := ⟨RX5, TX5, 5, "PointingArms$Scene", tyX5, rfl, by decide, gTB_mem 129 (by decide +kernel) rfl, Or.inl rfl, uX5, tyX5_ok, nmX5⟩
theorem IX8_f1 : gFok RX8 (99, 5, 1) := ⟨RX5, TX5, 5, "PointingArms$Scene", tyX5, rfl, by decide, gTB_mem 132 (by decide +kernel) rfl, Or.inl rfl, uX5, tyX5_ok, nmX5⟩
theorem IX8_f2 : gFok RX8 (149, 5, 2) := ⟨RX5, TX5, 5, "PointingArms$Scene", tyX5, rfl, by decide, gTB_mem 134 (by decide +kernel) rfl, Or.inl rfl, uX5, tyX5_ok, nmX5⟩
theorem IX8_f3 : gFok RX8 (157, 5, 3) := ⟨RX5, TX5, 5, "PointingArms$Scene", tyX5, rfl, by decide, gTB_mem 137 (by decide +kernel) rfl, Or.inl rfl, uX5, tyX5_ok, nmX5⟩
theorem IX8_f4 : gFok RX8 (160, 5, 4) := ⟨RX5, TX5, 5, "PointingArms$Scene", tyX5, rfl, by decide, gTB_mem 139 (by decide +kernel) rfl, Or.inl rfl, uX5, tyX5_ok, nmX5⟩
theorem IX8_f5 : gFok RX8 (10, 8, 0) := ⟨RX8, TX8, 10, "PointingArms", tyX8, rfl, by decide, gTB_mem 226 (by decide +kernel) rfl, Or.inl rfl, uX8, tyX8_ok, nmX8⟩
theorem IX8_f6 : gFok RX8 (19, 8, 1) := ⟨RX8, TX8, 10, "PointingArms", tyX8, rfl, by decide, gTB_mem 227 (by decide +kernel) rfl, Or.inl rfl, uX8, tyX8_ok, nmX8⟩
theorem IX8_f7 : gFok RX8 (23, 8, 2) := ⟨RX8, TX8, 10, "PointingArms", tyX8, rfl, by decide, gTB_mem 228 (by decide +kernel) rfl, Or.inl rfl, uX8, tyX8_ok, nmX8⟩
theorem IX8_f8 : gFok RX8 (229, 8, 3) := ⟨RX8, TX8, 10, "PointingArms", tyX8, rfl, by decide, gTB_mem 229 (by decide +kernel) rfl, Or.inl rfl, uX8, tyX8_ok, nmX8⟩
theorem IX8_f9 : gFok RX8 (29, 8, 4) := ⟨RX8, TX8, 10, "PointingArms", tyX8, rfl, by decide, gTB_mem 230 (by decide +kernel) rfl, Or.inl rfl, uX8, tyX8_ok, nmX8⟩
theorem IX8_f10 : gFok RX8 (36, 8, 5) := ⟨RX8, TX8, 10, "PointingArms", tyX8, rfl, by decide, gTB_mem 231 (by decide +kernel) rfl, Or.inl rfl, uX8, tyX8_ok, nmX8⟩
theorem IX8_f11 : gFok RX8 (45, 8, 6) := ⟨RX8, TX8, 10, "PointingArms", tyX8, rfl, by decide, gTB_mem 232 (by decide +kernel) rfl, Or.inl rfl, uX8, tyX8_ok, nmX8⟩
theorem IX8_f12 : gFok RX8 (52, 8, 7) := ⟨RX8, TX8, 10, "PointingArms", tyX8, rfl, by decide, gTB_mem 233 (by decide +kernel) rfl, Or.inl rfl, uX8, tyX8_ok, nmX8⟩
theorem IX8_f13 : gFok RX8 (59, 8, 8) := ⟨RX8, TX8, 10, "PointingArms", tyX8, rfl, by decide, gTB_mem 234 (by decide +kernel) rfl, Or.inl rfl, uX8, tyX8_ok, nmX8⟩
theorem IX8_f14 : gFok RX8 (65, 8, 9) := ⟨RX8, TX8, 10, "PointingArms", tyX8, rfl, by decide, gTB_mem 235 (by decide +kernel) rfl, Or.inl rfl, uX8, tyX8_ok, nmX8⟩
theorem IX8_ok : gIok RX8 IX8 := ⟨List.forall_mem_cons.mpr ⟨IX8_f0, List.forall_mem_cons.mpr ⟨IX8_f1, List.forall_mem_cons.mpr ⟨IX8_f2, List.forall_mem_cons.mpr ⟨IX8_f3, List.forall_mem_cons.mpr ⟨IX8_f4, List.forall_mem_cons.mpr ⟨IX8_f5, List.forall_mem_cons.mpr ⟨IX8_f6, List.forall_mem_cons.mpr ⟨IX8_f7, List.forall_mem_cons.mpr ⟨IX8_f8, List.forall_mem_cons.mpr ⟨IX8_f9, List.forall_mem_cons.mpr ⟨IX8_f10, List.forall_mem_cons.mpr ⟨IX8_f11, List.forall_mem_cons.mpr ⟨IX8_f12, List.forall_mem_cons.mpr ⟨IX8_f13, List.forall_mem_cons.mpr ⟨IX8_f14, fun _ h => absurd h List.not_mem_nil⟩⟩⟩⟩⟩⟩⟩⟩⟩⟩⟩⟩⟩⟩⟩, List.forall_mem_cons.mpr ⟨gTB_mem 302 (by decide +kernel) rfl, fun _ h => absurd h List.not_mem_nil⟩, List.forall_mem_cons.mpr ⟨gTB_mem 465 (by decide +kernel) rfl, List.forall_mem_cons.mpr ⟨gTB_mem 466 (by decide +kernel) rfl, fun _ h => absurd h List.not_mem_nil⟩⟩⟩
def IX9 : gI := ([(78, 9, 0), (7, 9, 1), (88, 9, 2), (13, 9, 3), (91, 9, 4), (16, 9, 5), (19, 9, 6), (22, 9, 7), (176, 9, 8), (25, 9, 9), (28, 9, 10), (179, 9, 11), (31, 9, 12), (34, 9, 13), (182, 9, 14), (37, 9, 15), (40, 9, 16), (138, 9, 17), (141, 9, 18), (144, 9, 19), (43, 9, 20), (46, 9, 21), (49, 9, 22), (52, 9, 23), (55, 9, 24), (58, 9, 25), (246, 9, 26), (61, 9, 27), (64, 9, 28), (67, 9, 29), (71, 9, 30)], [(119, -100001)], [(82, 20), (103, 5), (109, 3), (111, 4), (113, -3), (98, 60), (130, 8), (132, 255), (134, 32), (136, 126), (152, 48), (154, 57), (94, -9), (96, 9), (217, -1), (219, 440), (230, 2), (259, 12)])
theorem IX9_f0 : gFok RX9 (78, 9, 0) := ⟨RX9, TX9, 31, "PointingArmsModel", tyX9, rfl, by decide, gTB_mem 765 (by decide +kernel) rfl, Or.inl rfl, uX9, tyX9_ok, nmX9⟩
theorem IX9_f1 : gFok RX9 (7, 9, 1) := ⟨RX9, TX9, 31, "PointingArmsModel", tyX9, rfl, by decide, gTB_mem 766 (by decide +kernel) rfl, Or.inl rfl, uX9, tyX9_ok, nmX9⟩
theorem IX9_f2 : gFok RX9 (88, 9, 2) := ⟨RX9, TX9, 31, "PointingArmsModel", tyX9, rfl, by decide, gTB_mem 767 (by decide +kernel) rfl, Or.inl rfl, uX9, tyX9_ok, nmX9⟩
theorem IX9_f3 : gFok RX9 (13, 9, 3) := ⟨RX9, TX9, 31, "PointingArmsModel", tyX9, rfl, by decide, gTB_mem 768 (by decide +kernel) rfl, Or.inl rfl, uX9, tyX9_ok, nmX9⟩
theorem IX9_f4 : gFok RX9 (91, 9, 4) := ⟨RX9, TX9, 31, "PointingArmsModel", tyX9, rfl, by decide, gTB_mem 769 (by decide +kernel) rfl, Or.inl rfl, uX9, tyX9_ok, nmX9⟩
theorem IX9_f5 : gFok RX9 (16, 9, 5) := ⟨RX9, TX9, 31, "PointingArmsModel", tyX9, rfl, by decide, gTB_mem 770 (by decide +kernel) rfl, Or.inl rfl, uX9, tyX9_ok, nmX9⟩
theorem IX9_f6 : gFok RX9 (19, 9, 6) := ⟨RX9, TX9, 31, "PointingArmsModel", tyX9, rfl, by decide, gTB_mem 771 (by decide +kernel) rfl, Or.inl rfl, uX9, tyX9_ok, nmX9⟩
theorem IX9_f7 : gFok RX9 (22, 9, 7) := ⟨RX9, TX9, 31, "PointingArmsModel", tyX9, rfl, by decide, gTB_mem 772 (by decide +kernel) rfl, Or.inl rfl, uX9, tyX9_ok, nmX9⟩
theorem IX9_f8 : gFok RX9 (176, 9, 8) := ⟨RX9, TX9, 31, "PointingArmsModel", tyX9, rfl, by decide, gTB_mem 773 (by decide +kernel) rfl, Or.inl rfl, uX9, tyX9_ok, nmX9⟩
theorem IX9_f9 : gFok RX9 (25, 9, 9) := ⟨RX9, TX9, 31, "PointingArmsModel", tyX9, rfl, by decide, gTB_mem 774 (by decide +kernel) rfl, Or.inl rfl, uX9, tyX9_ok, nmX9⟩
theorem IX9_f10 : gFok RX9 (28, 9, 10) := ⟨RX9, TX9, 31, "PointingArmsModel", tyX9, rfl, by decide, gTB_mem 775 (by decide +kernel) rfl, Or.inl rfl, uX9, tyX9_ok, nmX9⟩
theorem IX9_f11 : gFok RX9 (179, 9, 11) := ⟨RX9, TX9, 31, "PointingArmsModel", tyX9, rfl, by decide, gTB_mem 776 (by decide +kernel) rfl, Or.inl rfl, uX9, tyX9_ok, nmX9⟩
theorem IX9_f12 : gFok RX9 (31, 9, 12) := ⟨RX9, TX9, 31, "PointingArmsModel", tyX9, rfl, by decide, gTB_mem 777 (by decide +kernel) rfl, Or.inl rfl, uX9, tyX9_ok, nmX9⟩
theorem IX9_f13 : gFok RX9 (34, 9, 13) := ⟨RX9, TX9, 31, "PointingArmsModel", tyX9, rfl, by decide, gTB_mem 778 (by decide +kernel) rfl, Or.inl rfl, uX9, tyX9_ok, nmX9⟩
theorem IX9_f14 : gFok RX9 (182, 9, 14) := ⟨RX9, TX9, 31, "PointingArmsModel", tyX9, rfl, by decide, gTB_mem 779 (by decide +kernel) rfl, Or.inl rfl, uX9, tyX9_ok, nmX9⟩
theorem IX9_f15 : gFok RX9 (37, 9, 15) := ⟨RX9, TX9, 31, "PointingArmsModel", tyX9, rfl, by decide, gTB_mem 780 (by decide +kernel) rfl, Or.inl rfl, uX9, tyX9_ok, nmX9⟩
theorem IX9_f16 : gFok RX9 (40, 9, 16) := ⟨RX9, TX9, 31, "PointingArmsModel", tyX9, rfl, by decide, gTB_mem 781 (by decide +kernel) rfl, Or.inl rfl, uX9, tyX9_ok, nmX9⟩
theorem IX9_f17 : gFok RX9 (138, 9, 17) := ⟨RX9, TX9, 31, "PointingArmsModel", tyX9, rfl, by decide, gTB_mem 782 (by decide +kernel) rfl, Or.inl rfl, uX9, tyX9_ok, nmX9⟩
theorem IX9_f18 : gFok RX9 (141, 9, 18) := ⟨RX9, TX9, 31, "PointingArmsModel", tyX9, rfl, by decide, gTB_mem 783 (by decide +kernel) rfl, Or.inl rfl, uX9, tyX9_ok, nmX9⟩
theorem IX9_f19 : gFok RX9 (144, 9, 19) := ⟨RX9, TX9, 31, "PointingArmsModel", tyX9, rfl, by decide, gTB_mem 784 (by decide +kernel) rfl, Or.inl rfl, uX9, tyX9_ok, nmX9⟩
theorem IX9_f20 : gFok RX9 (43, 9, 20) := ⟨RX9, TX9, 31, "PointingArmsModel", tyX9, rfl, by decide, gTB_mem 785 (by decide +kernel) rfl, Or.inl rfl, uX9, tyX9_ok, nmX9⟩
theorem IX9_f21 : gFok RX9 (46, 9, 21) := ⟨RX9, TX9, 31, "PointingArmsModel", tyX9, rfl, by decide, gTB_mem 786 (by decide +kernel) rfl, Or.inl rfl, uX9, tyX9_ok, nmX9⟩
theorem IX9_f22 : gFok RX9 (49, 9, 22) := ⟨RX9, TX9, 31, "PointingArmsModel", tyX9, rfl, by decide, gTB_mem 787 (by decide +kernel) rfl, Or.inl rfl, uX9, tyX9_ok, nmX9⟩
theorem IX9_f23 : gFok RX9 (52, 9, 23) := ⟨RX9, TX9, 31, "PointingArmsModel", tyX9, rfl, by decide, gTB_mem 788 (by decide +kernel) rfl, Or.inl rfl, uX9, tyX9_ok, nmX9⟩
theorem IX9_f24 : gFok RX9 (55, 9, 24) := ⟨RX9, TX9, 31, "PointingArmsModel", tyX9, rfl, by decide, gTB_mem 789 (by decide +kernel) rfl, Or.inl rfl, uX9, tyX9_ok, nmX9⟩
theorem IX9_f25 : gFok RX9 (58, 9, 25) := ⟨RX9, TX9, 31, "PointingArmsModel", tyX9, rfl, by decide, gTB_mem 790 (by decide +kernel) rfl, Or.inl rfl, uX9, tyX9_ok, nmX9⟩
theorem IX9_f26 : gFok RX9 (246, 9, 26) := ⟨RX9, TX9, 31, "PointingArmsModel", tyX9, rfl, by decide, gTB_mem 791 (by decide +kernel) rfl, Or.inl rfl, uX9, tyX9_ok, nmX9⟩
theorem IX9_f27 : gFok RX9 (61, 9, 27) := ⟨RX9, TX9, 31, "PointingArmsModel", tyX9, rfl, by decide, gTB_mem 792 (by decide +kernel) rfl, Or.inl rfl, uX9, tyX9_ok, nmX9⟩
theorem IX9_f28 : gFok RX9 (64, 9, 28) := ⟨RX9, TX9, 31, "PointingArmsModel", tyX9, rfl, by decide, gTB_mem 793 (by decide +kernel) rfl, Or.inl rfl, uX9, tyX9_ok, nmX9⟩
theorem IX9_f29 : gFok RX9 (67, 9, 29) := ⟨RX9, TX9, 31, "PointingArmsModel", tyX9, rfl, by decide, gTB_mem 794 (by decide +kernel) rfl, Or.inl rfl, uX9, tyX9_ok, nmX9⟩
theorem IX9_f30 : gFok RX9 (71, 9, 30) := ⟨RX9, TX9, 31, "PointingArmsModel", tyX9, rfl, by decide, gTB_mem 795 (by decide +kernel) rfl, Or.inl rfl, uX9, tyX9_ok, nmX9⟩
theorem IX9_ok : gIok RX9 IX9 := ⟨List.forall_mem_cons.mpr ⟨IX9_f0, List.forall_mem_cons.mpr ⟨IX9_f1, List.forall_mem_cons.mpr ⟨IX9_f2, List.forall_mem_cons.mpr ⟨IX9_f3, List.forall_mem_cons.mpr ⟨IX9_f4, List.forall_mem_cons.mpr ⟨IX9_f5, List.forall_mem_cons.mpr ⟨IX9_f6, List.forall_mem_cons.mpr ⟨IX9_f7, List.forall_mem_cons.mpr ⟨IX9_f8, List.forall_mem_cons.mpr ⟨IX9_f9, List.forall_mem_cons.mpr ⟨IX9_f10, List.forall_mem_cons.mpr ⟨IX9_f11, List.forall_mem_cons.mpr ⟨IX9_f12, List.forall_mem_cons.mpr ⟨IX9_f13, List.forall_mem_cons.mpr ⟨IX9_f14, List.forall_mem_cons.mpr ⟨IX9_f15, List.forall_mem_cons.mpr ⟨IX9_f16, List.forall_mem_cons.mpr ⟨IX9_f17, List.forall_mem_cons.mpr ⟨IX9_f18, List.forall_mem_cons.mpr ⟨IX9_f19, List.forall_mem_cons.mpr ⟨IX9_f20, List.forall_mem_cons.mpr ⟨IX9_f21, List.forall_mem_cons.mpr ⟨IX9_f22, List.forall_mem_cons.mpr ⟨IX9_f23, List.forall_mem_cons.mpr ⟨IX9_f24, List.forall_mem_cons.mpr ⟨IX9_f25, List.forall_mem_cons.mpr ⟨IX9_f26, List.forall_mem_cons.mpr ⟨IX9_f27, List.forall_mem_cons.mpr ⟨IX9_f28, List.forall_mem_cons.mpr ⟨IX9_f29, List.forall_mem_cons.mpr ⟨IX9_f30, fun _ h => absurd h List.not_mem_nil⟩⟩⟩⟩⟩⟩⟩⟩⟩⟩⟩⟩⟩⟩⟩⟩⟩⟩⟩⟩⟩⟩⟩⟩⟩⟩⟩⟩⟩⟩⟩, List.forall_mem_cons.mpr ⟨gTB_mem 886 (by decide +kernel) rfl, fun _ h => absurd h List.not_mem_nil⟩, List.forall_mem_cons.mpr ⟨gTB_mem 866 (by decide +kernel) rfl, List.forall_mem_cons.mpr ⟨gTB_mem 870 (by decide +kernel) rfl, List.forall_mem_cons.mpr ⟨gTB_mem 879 (by decide +kernel) rfl, List.forall_mem_cons.mpr ⟨gTB_mem 880 (by decide +kernel) rfl, List.forall_mem_cons.mpr ⟨gTB_mem 881 (by decide +kernel) rfl, List.forall_mem_cons.mpr ⟨gTB_mem 894 (by decide +kernel) rfl, List.forall_mem_cons.mpr ⟨gTB_mem 919 (by decide +kernel) rfl, List.forall_mem_cons.mpr ⟨gTB_mem 920 (by decide +kernel) rfl, List.forall_mem_cons.mpr ⟨gTB_mem 921 (by decide +kernel) rfl, List.forall_mem_cons.mpr ⟨gTB_mem 922 (by decide +kernel) rfl, List.forall_mem_cons.mpr ⟨gTB_mem 935 (by decide +kernel) rfl, List.forall_mem_cons.mpr ⟨gTB_mem 936 (by decide +kernel) rfl, List.forall_mem_cons.mpr ⟨gTB_mem 972 (by decide +kernel) rfl, List.forall_mem_cons.mpr ⟨gTB_mem 973 (by decide +kernel) rfl, List.forall_mem_cons.mpr ⟨gTB_mem 1040 (by decide +kernel) rfl, List.forall_mem_cons.mpr ⟨gTB_mem 1041 (by decide +kernel) rfl, List.forall_mem_cons.mpr ⟨gTB_mem 1069 (by decide +kernel) rfl, List.forall_mem_cons.mpr ⟨gTB_mem 1120 (by decide +kernel) rfl, fun _ h => absurd h List.not_mem_nil⟩⟩⟩⟩⟩⟩⟩⟩⟩⟩⟩⟩⟩⟩⟩⟩⟩⟩⟩
def IJ6 : gI := ([], [(264, 65536), (265, 1431655765), (266, 858993459), (267, 252645135)], [])
theorem IJ6_ok : gIok RJ6 IJ6 := ⟨fun _ h => absurd h List.not_mem_nil, List.forall_mem_cons.mpr ⟨gTB_mem 501 (by decide +kernel) rfl, List.forall_mem_cons.mpr ⟨gTB_mem 528 (by decide +kernel) rfl, List.forall_mem_cons.mpr ⟨gTB_mem 529 (by decide +kernel) rfl, List.forall_mem_cons.mpr ⟨gTB_mem 530 (by decide +kernel) rfl, fun _ h => absurd h List.not_mem_nil⟩⟩⟩⟩, fun _ h => absurd h List.not_mem_nil⟩
abbrev mX0_fewestArms : gM := (yX0_fewestArms, cX0_fewestArms, 7, (some .int))
def iX0_fewestArms : List (Nat × Instr) := [(0, .iload_n 3), (1, .ifCond .lt 24), (4, .iload_n 3), (5, .sipush 1024), (8, .if_icmp .ge 17), (11, .aload_n 0), (12, .aload_n 1), (13, .aload_n 2), (14, .iload_n 3), (15, .iload 4), (17, .iload 5), (19, .invokevirtual 20), (22, .ifCond .ne 6), (25, .bipush (-4)), (27, .ireturn), (28, .iconst 0), (29, .istore 6), (31, .iload 6), (33, .iload_n 3), (34, .if_icmp .gt 18), (37, .aload_n 0), (38, .getfield 17), (41, .iload 6), (43, .bipush 100), (45, .iastore), (46, .iinc 6 1), (49, .goto (-18)), (52, .aload_n 0), (53, .getfield 17), (56, .iconst 0), (57, .iconst 0), (58, .iastore), (59, .iconst 0), (60, .istore 6), (62, .iload 6), (64, .iload_n 3), (65, .if_icmp .ge 27), (68, .aload_n 0), (69, .getfield 17), (72, .iload 6), (74, .iaload), (75, .bipush 100), (77, .if_icmp .ge 9), (80, .aload_n 0), (81, .iload 6), (83, .invokevirtual 24), (86, .iinc 6 1), (89, .goto (-27)), (92, .aload_n 0), (93, .getfield 17), (96, .iload_n 3), (97, .iaload), (98, .bipush 100), (100, .if_icmp .ge 12), (103, .aload_n 0), (104, .getfield 17), (107, .iload_n 3), (108, .iaload), (109, .goto 5), (112, .bipush (-4)), (114, .ireturn)]
theorem qX0_fewestArms : gDec mX0_fewestArms.2.1 iX0_fewestArms := by unfold gDec; decide +kernel
abbrev mX0_collect : gM := (yX0_collect, cX0_collect, 11, (some .boolean))
def iX0_collect : List (Nat × Instr) := [(0, .aload_n 0), (1, .iconst 0), (2, .putfield 28), (5, .iconst 0), (6, .istore 6), (8, .iconst 0), (9, .istore 7), (11, .iload 7), (13, .bipush 80), (15, .if_icmp .ge 76), (18, .aload_n 2), (19, .iload 7), (21, .invokevirtual 32), (24, .istore 8), (26, .aload_n 2), (27, .iload 7), (29, .invokevirtual 36), (32, .istore 9), (34, .aload_n 1), (35, .aload_n 1), (36, .iload 4), (38, .iload 5), (40, .iload 8), (42, .iload 9), (44, .iconst 0), (45, .invokevirtual 39), (48, .iload 8), (50, .iload 9), (52, .iconst 0), (53, .invokevirtual 45), (56, .istore 10), (58, .iload 10), (60, .ifCond .eq 25), (63, .iload 10), (65, .iload_n 3), (66, .iconst (-1)), (67, .ixor), (68, .iand), (69, .ifCond .ne 16), (72, .iload 6), (74, .iload 10), (76, .ior), (77, .istore 6), (79, .aload_n 0), (80, .iload 10), (82, .invokevirtual 49), (85, .iinc 7 1), (88, .goto (-77)), (91, .iload 6), (93, .iload_n 3), (94, .if_icmp .ne 7), (97, .iconst 1), (98, .goto 4), (101, .iconst 0), (102, .ireturn)]
theorem qX0_collect : gDec mX0_collect.2.1 iX0_collect := by unfold gDec; decide +kernel
abbrev mX0_note : gM := (yX0_note, cX0_note, 3, none)
def iX0_note : List (Nat × Instr) := [(0, .iconst 0), (1, .istore_n 2), (2, .iload_n 2), (3, .aload_n 0), (4, .getfield 28), (7, .if_icmp .ge 20), (10, .aload_n 0), (11, .getfield 11), (14, .iload_n 2), (15, .iaload), (16, .iload_n 1), (17, .if_icmp .ne 4), (20, .return_), (21, .iinc 2 1), (24, .goto (-22)), (27, .aload_n 0), (28, .getfield 28), (31, .aload_n 0), (32, .getfield 11), (35, .arraylength), (36, .if_icmp .ge 23), (39, .aload_n 0), (40, .getfield 11), (43, .aload_n 0), (44, .getfield 28), (47, .iload_n 1), (48, .iastore), (49, .aload_n 0), (50, .dup), (51, .getfield 28), (54, .iconst 1), (55, .iadd), (56, .putfield 28), (59, .return_)]
theorem qX0_note : gDec mX0_note.2.1 iX0_note := by unfold gDec; decide +kernel
abbrev mX0_goOnFrom : gM := (yX0_goOnFrom, cX0_goOnFrom, 4, none)
def iX0_goOnFrom : List (Nat × Instr) := [(0, .iconst 0), (1, .istore_n 2), (2, .iload_n 2), (3, .aload_n 0), (4, .getfield 28), (7, .if_icmp .ge 56), (10, .iload_n 1), (11, .aload_n 0), (12, .getfield 11), (15, .iload_n 2), (16, .iaload), (17, .ior), (18, .istore_n 3), (19, .iload_n 3), (20, .sipush 1024), (23, .if_icmp .ge 34), (26, .aload_n 0), (27, .getfield 17), (30, .iload_n 3), (31, .iaload), (32, .aload_n 0), (33, .getfield 17), (36, .iload_n 1), (37, .iaload), (38, .iconst 1), (39, .iadd), (40, .if_icmp .le 17), (43, .aload_n 0), (44, .getfield 17), (47, .iload_n 3), (48, .aload_n 0), (49, .getfield 17), (52, .iload_n 1), (53, .iaload), (54, .iconst 1), (55, .iadd), (56, .iastore), (57, .iinc 2 1), (60, .goto (-58)), (63, .return_)]
theorem qX0_goOnFrom : gDec mX0_goOnFrom.2.1 iX0_goOnFrom := by unfold gDec; decide +kernel
abbrev mX1_haveDivisor : gM := (yX1_haveDivisor, cX1_haveDivisor, 3, (some .boolean))
def iX1_haveDivisor : List (Nat × Instr) := [(0, .iconst 2), (1, .istore_n 2), (2, .iload_n 2), (3, .iconst 5), (4, .if_icmp .gt 23), (7, .iload_n 0), (8, .iload_n 2), (9, .irem), (10, .ifCond .ne 11), (13, .iload_n 1), (14, .iload_n 2), (15, .irem), (16, .ifCond .ne 5), (19, .iconst 1), (20, .ireturn), (21, .iinc 2 1), (24, .goto (-22)), (27, .iconst 0), (28, .ireturn)]
theorem qX1_haveDivisor : gDec mX1_haveDivisor.2.1 iX1_haveDivisor := by unfold gDec; decide +kernel
abbrev mX1_dx : gM := (yX1_dx, cX1_dx, 2, (some .int))
def iX1_dx : List (Nat × Instr) := [(0, .iload_n 1), (1, .ifCond .lt 18), (4, .iload_n 1), (5, .bipush 80), (7, .if_icmp .ge 12), (10, .aload_n 0), (11, .getfield 9), (14, .iload_n 1), (15, .iaload), (16, .goto 4), (19, .iconst 0), (20, .ireturn)]
theorem qX1_dx : gDec mX1_dx.2.1 iX1_dx := by unfold gDec; decide +kernel
abbrev mX1_dy : gM := (yX1_dy, cX1_dy, 2, (some .int))
def iX1_dy : List (Nat × Instr) := [(0, .iload_n 1), (1, .ifCond .lt 18), (4, .iload_n 1), (5, .bipush 80), (7, .if_icmp .ge 12), (10, .aload_n 0), (11, .getfield 13), (14, .iload_n 1), (15, .iaload), (16, .goto 4), (19, .iconst 0), (20, .ireturn)]
theorem qX1_dy : gDec mX1_dy.2.1 iX1_dy := by unfold gDec; decide +kernel
abbrev mX1_canMean : gM := (yX1_canMean, cX1_canMean, 6, (some .boolean))
def iX1_canMean : List (Nat × Instr) := [(0, .iconst 0), (1, .istore 5), (3, .iload 5), (5, .bipush 80), (7, .if_icmp .ge 36), (10, .aload_n 1), (11, .iload_n 2), (12, .iload_n 3), (13, .iload 4), (15, .aload_n 0), (16, .getfield 9), (19, .iload 5), (21, .iaload), (22, .aload_n 0), (23, .getfield 13), (26, .iload 5), (28, .iaload), (29, .invokevirtual 20), (32, .ifCond .eq 5), (35, .iconst 1), (36, .ireturn), (37, .iinc 5 1), (40, .goto (-37)), (43, .iconst 0), (44, .ireturn)]
theorem qX1_canMean : gDec mX1_canMean.2.1 iX1_canMean := by unfold gDec; decide +kernel
abbrev mX1_armsFor : gM := (yX1_armsFor, cX1_armsFor, 7, (some .int))
def iX1_armsFor : List (Nat × Instr) := [(0, .iconst 0), (1, .istore 5), (3, .iconst 0), (4, .istore 6), (6, .iload 6), (8, .bipush 80), (10, .if_icmp .ge 44), (13, .iload 5), (15, .aload_n 1), (16, .iload_n 2), (17, .iload_n 3), (18, .iload 4), (20, .aload_n 0), (21, .getfield 9), (24, .iload 6), (26, .iaload), (27, .aload_n 0), (28, .getfield 13), (31, .iload 6), (33, .iaload), (34, .invokevirtual 20), (37, .ifCond .eq 7), (40, .iconst 1), (41, .goto 4), (44, .iconst 0), (45, .iadd), (46, .istore 5), (48, .iinc 6 1), (51, .goto (-45)), (54, .iload 5), (56, .ireturn)]
theorem qX1_armsFor : gDec mX1_armsFor.2.1 iX1_armsFor := by unfold gDec; decide +kernel
abbrev mX2_changeLaw : gM := (yX2_changeLaw, cX2_changeLaw, 4, (some .int))
def iX2_changeLaw : List (Nat × Instr) := [(0, .iload_n 1), (1, .ifCond .ne 10), (4, .aload_n 0), (5, .getfield 15), (8, .goto 7), (11, .aload_n 0), (12, .getfield 11), (15, .istore_n 3), (16, .iload_n 1), (17, .ifCond .ne 11), (20, .aload_n 0), (21, .iload_n 2), (22, .putfield 15), (25, .goto 8), (28, .aload_n 0), (29, .iload_n 2), (30, .putfield 11), (33, .iload_n 3), (34, .ireturn)]
theorem qX2_changeLaw : gDec mX2_changeLaw.2.1 iX2_changeLaw := by unfold gDec; decide +kernel
abbrev mX2_takeLaws : gM := (yX2_takeLaws, cX2_takeLaws, 2, none)
def iX2_takeLaws : List (Nat × Instr) := [(0, .aload_n 0), (1, .aload_n 1), (2, .getfield 15), (5, .putfield 15), (8, .aload_n 0), (9, .aload_n 1), (10, .getfield 11), (13, .putfield 11), (16, .return_)]
theorem qX2_takeLaws : gDec mX2_takeLaws.2.1 iX2_takeLaws := by unfold gDec; decide +kernel
abbrev mX2_middle : gM := (yX2_middle, cX2_middle, 5, (some .int))
def iX2_middle : List (Nat × Instr) := [(0, .iload_n 1), (1, .ifCond .lt 18), (4, .iload_n 1), (5, .bipush 10), (7, .if_icmp .ge 12), (10, .iload_n 2), (11, .ifCond .lt 8), (14, .iload_n 2), (15, .iconst 1), (16, .if_icmp .le 5), (19, .iconst 0), (20, .ireturn), (21, .iload_n 1), (22, .iconst 5), (23, .imul), (24, .istore 4), (26, .aload_n 0), (27, .getfield 18), (30, .iload 4), (32, .iload_n 2), (33, .iadd), (34, .iaload), (35, .iload_n 3), (36, .aload_n 0), (37, .getfield 18), (40, .iload 4), (42, .iconst 3), (43, .iadd), (44, .iload_n 2), (45, .iadd), (46, .iaload), (47, .imul), (48, .iadd), (49, .ireturn)]
theorem qX2_middle : gDec mX2_middle.2.1 iX2_middle := by unfold gDec; decide +kernel
abbrev mX2_isMet : gM := (yX2_isMet, cX2_isMet, 12, (some .boolean))
def iX2_isMet : List (Nat × Instr) := [(0, .aload_n 0), (1, .iload_n 1), (2, .iconst 0), (3, .iload 6), (5, .invokevirtual 22), (8, .iload_n 2), (9, .isub), (10, .istore 7), (12, .aload_n 0), (13, .iload_n 1), (14, .iconst 1), (15, .iload 6), (17, .invokevirtual 22), (20, .iload_n 3), (21, .isub), (22, .istore 8), (24, .iload 7), (26, .iload 4), (28, .imul), (29, .iload 8), (31, .iload 5), (33, .imul), (34, .iadd), (35, .ifCond .gt 5), (38, .iconst 0), (39, .ireturn), (40, .aload_n 0), (41, .iload_n 1), (42, .iconst 2), (43, .invokevirtual 26), (46, .aload_n 0), (47, .iload_n 1), (48, .iconst 2), (49, .invokevirtual 26), (52, .imul), (53, .istore 9), (55, .iload 7), (57, .iload 5), (59, .imul), (60, .iload 8), (62, .iload 4), (64, .imul), (65, .isub), (66, .istore 10), (68, .iload 10), (70, .iload 10), (72, .imul), (73, .iload 9), (75, .iload 4), (77, .iload 4), (79, .imul), (80, .iload 5), (82, .iload 5), (84, .imul), (85, .iadd), (86, .imul), (87, .isub), (88, .istore 11), (90, .iload 7), (92, .iload 7), (94, .imul), (95, .iload 8), (97, .iload 8), (99, .imul), (100, .iadd), (101, .iload 9), (103, .if_icmp .le 25), (106, .iload 11), (108, .ifCond .lt 16), (111, .iload 11), (113, .ifCond .ne 15), (116, .aload_n 0), (117, .getfield 11), (120, .iconst 1), (121, .if_icmp .ne 7), (124, .iconst 1), (125, .goto 4), (128, .iconst 0), (129, .ireturn)]
theorem qX2_isMet : gDec mX2_isMet.2.1 iX2_isMet := by unfold gDec; decide +kernel
abbrev mX2_metBy : gM := (yX2_metBy, cX2_metBy, 8, (some .int))
def iX2_metBy : List (Nat × Instr) := [(0, .iconst 0), (1, .istore 6), (3, .iconst 0), (4, .istore 7), (6, .iload 7), (8, .aload_n 0), (9, .invokevirtual 30), (12, .if_icmp .ge 34), (15, .aload_n 0), (16, .iload 7), (18, .iload_n 1), (19, .iload_n 2), (20, .iload_n 3), (21, .iload 4), (23, .iload 5), (25, .invokevirtual 34), (28, .ifCond .eq 12), (31, .iload 6), (33, .iconst 1), (34, .iload 7), (36, .ishl), (37, .ior), (38, .istore 6), (40, .iinc 7 1), (43, .goto (-37)), (46, .iload 6), (48, .ireturn)]
theorem qX2_metBy : gDec mX2_metBy.2.1 iX2_metBy := by unfold gDec; decide +kernel
abbrev mX2_narrowed : gM := (yX2_narrowed, cX2_narrowed, 7, (some .int))
def iX2_narrowed : List (Nat × Instr) := [(0, .aload_n 0), (1, .getfield 15), (4, .ifCond .eq 7), (7, .iload_n 1), (8, .ifCond .ne 5), (11, .iload_n 1), (12, .ireturn), (13, .iload_n 1), (14, .invokestatic 38), (17, .istore 5), (19, .iload 5), (21, .iconst 1), (22, .iadd), (23, .istore 6), (25, .iload 6), (27, .aload_n 0), (28, .invokevirtual 30), (31, .if_icmp .ge 38), (34, .iload_n 1), (35, .iload 6), (37, .ishr), (38, .iconst 1), (39, .iand), (40, .iconst 1), (41, .if_icmp .ne 22), (44, .aload_n 0), (45, .iload 6), (47, .iload 5), (49, .iload_n 2), (50, .iload_n 3), (51, .iload 4), (53, .invokevirtual 44), (56, .ifCond .eq 7), (59, .iload 6), (61, .istore 5), (63, .iinc 6 1), (66, .goto (-41)), (69, .iconst 1), (70, .iload 5), (72, .ishl), (73, .ireturn)]
theorem qX2_narrowed : gDec mX2_narrowed.2.1 iX2_narrowed := by unfold gDec; decide +kernel
abbrev mX2_meansJust : gM := (yX2_meansJust, cX2_meansJust, 8, (some .boolean))
def iX2_meansJust : List (Nat × Instr) := [(0, .aload_n 0), (1, .iload_n 1), (2, .iload_n 2), (3, .iload_n 3), (4, .iload 4), (6, .iload 5), (8, .iconst 0), (9, .invokevirtual 34), (12, .ifCond .ne 5), (15, .iconst 0), (16, .ireturn), (17, .iconst 0), (18, .istore 6), (20, .iload 6), (22, .aload_n 0), (23, .invokevirtual 30), (26, .if_icmp .ge 67), (29, .iload 6), (31, .iload_n 1), (32, .if_icmp .eq 29), (35, .aload_n 0), (36, .getfield 15), (39, .ifCond .eq 18), (42, .aload_n 0), (43, .iload 6), (45, .iload_n 1), (46, .iload 4), (48, .iload 5), (50, .iconst 0), (51, .invokevirtual 44), (54, .ifCond .eq 7), (57, .iconst 1), (58, .goto 4), (61, .iconst 0), (62, .istore 7), (64, .iload 7), (66, .ifCond .eq 21), (69, .aload_n 0), (70, .iload 6), (72, .iload_n 2), (73, .iload_n 3), (74, .iload 4), (76, .iload 5), (78, .iconst 0), (79, .invokevirtual 34), (82, .ifCond .eq 5), (85, .iconst 0), (86, .ireturn), (87, .iinc 6 1), (90, .goto (-70)), (93, .iconst 1), (94, .ireturn)]
theorem qX2_meansJust : gDec mX2_meansJust.2.1 iX2_meansJust := by unfold gDec; decide +kernel
abbrev mX2_isAhead : gM := (yX2_isAhead, cX2_isAhead, 8, (some .boolean))
def iX2_isAhead : List (Nat × Instr) := [(0, .aload_n 0), (1, .iload_n 1), (2, .iconst 0), (3, .iload 5), (5, .invokevirtual 22), (8, .iload_n 3), (9, .imul), (10, .aload_n 0), (11, .iload_n 1), (12, .iconst 1), (13, .iload 5), (15, .invokevirtual 22), (18, .iload 4), (20, .imul), (21, .iadd), (22, .istore 6), (24, .aload_n 0), (25, .iload_n 2), (26, .iconst 0), (27, .iload 5), (29, .invokevirtual 22), (32, .iload_n 3), (33, .imul), (34, .aload_n 0), (35, .iload_n 2), (36, .iconst 1), (37, .iload 5), (39, .invokevirtual 22), (42, .iload 4), (44, .imul), (45, .iadd), (46, .istore 7), (48, .iload 6), (50, .iload 7), (52, .if_icmp .lt 15), (55, .iload 6), (57, .iload 7), (59, .if_icmp .ne 12), (62, .iload_n 1), (63, .iload_n 2), (64, .if_icmp .ge 7), (67, .iconst 1), (68, .goto 4), (71, .iconst 0), (72, .ireturn)]
theorem qX2_isAhead : gDec mX2_isAhead.2.1 iX2_isAhead := by unfold gDec; decide +kernel
abbrev mX3_stallOf : gM := (yX3_stallOf, cX3_stallOf, 2, (some .int))
def iX3_stallOf : List (Nat × Instr) := [(0, .iload_n 1), (1, .ifCond .lt 17), (4, .iload_n 1), (5, .iconst 4), (6, .if_icmp .ge 12), (9, .aload_n 0), (10, .getfield 22), (13, .iload_n 1), (14, .iaload), (15, .goto 5), (18, .bipush (-4)), (20, .ireturn)]
theorem qX3_stallOf : gDec mX3_stallOf.2.1 iX3_stallOf := by unfold gDec; decide +kernel
abbrev mX3_leastWays : gM := (yX3_leastWays, cX3_leastWays, 11, (some .int))
def iX3_leastWays : List (Nat × Instr) := [(0, .aload_n 0), (1, .aload_n 1), (2, .getfield 25), (5, .iload_n 3), (6, .invokevirtual 30), (9, .aload_n 1), (10, .getfield 34), (13, .invokevirtual 38), (16, .istore 6), (18, .iconst 1), (19, .istore 7), (21, .iconst 0), (22, .istore 8), (24, .iload 8), (26, .iload_n 3), (27, .if_icmp .ge 16), (30, .iload 7), (32, .iload 6), (34, .imul), (35, .istore 7), (37, .iinc 8 1), (40, .goto (-16)), (43, .bipush (-4)), (45, .istore 8), (47, .iconst 0), (48, .istore 9), (50, .iload 9), (52, .iload 7), (54, .if_icmp .ge 82), (57, .aload_n 0), (58, .iload 9), (60, .iload_n 3), (61, .iload 6), (63, .invokevirtual 44), (66, .ifCond .ne 6), (69, .goto 61), (72, .aload_n 0), (73, .aload_n 1), (74, .getfield 34), (77, .iload_n 3), (78, .iload 4), (80, .iload 5), (82, .invokevirtual 48), (85, .istore 10), (87, .iload 8), (89, .ifCond .lt 10), (92, .iload 10), (94, .iload 8), (96, .if_icmp .ge 34), (99, .aload_n 0), (100, .aload_n 2), (101, .iload_n 3), (102, .iload 4), (104, .iload 5), (106, .invokevirtual 52), (109, .ifCond .eq 21), (112, .iload 10), (114, .istore 8), (116, .aload_n 0), (117, .getfield 18), (120, .iconst 0), (121, .aload_n 0), (122, .getfield 22), (125, .iconst 0), (126, .iconst 4), (127, .invokestatic 56), (130, .iinc 9 1), (133, .goto (-83)), (136, .iload 8), (138, .ireturn)]
theorem qX3_leastWays : gDec mX3_leastWays.2.1 iX3_leastWays := by unfold gDec; decide +kernel
abbrev mX3_bring : gM := (yX3_bring, cX3_bring, 4, none)
def iX3_bring : List (Nat × Instr) := [(0, .aload_n 0), (1, .getfield 12), (4, .invokevirtual 62), (7, .aload_n 0), (8, .getfield 12), (11, .aload_n 1), (12, .invokevirtual 65), (15, .iconst 0), (16, .istore_n 3), (17, .iload_n 3), (18, .iload_n 2), (19, .if_icmp .ge 25), (22, .aload_n 0), (23, .getfield 12), (26, .iconst 0), (27, .iconst 0), (28, .aload_n 1), (29, .iload_n 3), (30, .iconst 2), (31, .invokevirtual 69), (34, .invokestatic 73), (37, .pop), (38, .iinc 3 1), (41, .goto (-24)), (44, .return_)]
theorem qX3_bring : gDec mX3_bring.2.1 iX3_bring := by unfold gDec; decide +kernel
abbrev mX3_choose : gM := (yX3_choose, cX3_choose, 7, (some .boolean))
def iX3_choose : List (Nat × Instr) := [(0, .iload_n 1), (1, .istore 4), (3, .iconst 0), (4, .istore 5), (6, .iload_n 2), (7, .iconst 1), (8, .isub), (9, .istore 6), (11, .iload 6), (13, .ifCond .lt 53), (16, .iload_n 3), (17, .iconst 1), (18, .if_icmp .lt 9), (21, .iload 6), (23, .iconst 4), (24, .if_icmp .lt 5), (27, .iconst 0), (28, .ireturn), (29, .aload_n 0), (30, .getfield 18), (33, .iload 6), (35, .iload 4), (37, .iload_n 3), (38, .irem), (39, .iastore), (40, .iload 5), (42, .iconst 1), (43, .aload_n 0), (44, .getfield 18), (47, .iload 6), (49, .iaload), (50, .ishl), (51, .ior), (52, .istore 5), (54, .iload 4), (56, .iload_n 3), (57, .idiv), (58, .istore 4), (60, .iinc 6 (-1)), (63, .goto (-52)), (66, .iload 5), (68, .invokestatic 77), (71, .iload_n 2), (72, .if_icmp .ne 7), (75, .iconst 1), (76, .goto 4), (79, .iconst 0), (80, .ireturn)]
theorem qX3_choose : gDec mX3_choose.2.1 iX3_choose := by unfold gDec; decide +kernel
abbrev mX3_lay : gM := (yX3_lay, cX3_lay, 9, (some .int))
def iX3_lay : List (Nat × Instr) := [(0, .iconst 0), (1, .istore 5), (3, .iconst 0), (4, .istore 6), (6, .iload 6), (8, .iload_n 2), (9, .if_icmp .ge 90), (12, .iload 6), (14, .iconst 4), (15, .if_icmp .ge 84), (18, .aload_n 1), (19, .aload_n 0), (20, .getfield 18), (23, .iload 6), (25, .iaload), (26, .iconst 0), (27, .invokevirtual 83), (30, .istore 7), (32, .aload_n 1), (33, .aload_n 0), (34, .getfield 18), (37, .iload 6), (39, .iaload), (40, .iconst 1), (41, .invokevirtual 83), (44, .istore 8), (46, .aload_n 0), (47, .getfield 12), (50, .iload 6), (52, .iconst 0), (53, .iload 7), (55, .invokevirtual 84), (58, .pop), (59, .aload_n 0), (60, .getfield 12), (63, .iload 6), (65, .iconst 1), (66, .iload 8), (68, .invokevirtual 84), (71, .pop), (72, .iload 5), (74, .iload 7), (76, .iload_n 3), (77, .isub), (78, .invokestatic 88), (81, .iload 8), (83, .iload 4), (85, .isub), (86, .invokestatic 88), (89, .iadd), (90, .iadd), (91, .istore 5), (93, .iinc 6 1), (96, .goto (-90)), (99, .iload 5), (101, .ireturn)]
theorem qX3_lay : gDec mX3_lay.2.1 iX3_lay := by unfold gDec; decide +kernel
abbrev mX3_eachAlone : gM := (yX3_eachAlone, cX3_eachAlone, 6, (some .boolean))
def iX3_eachAlone : List (Nat × Instr) := [(0, .iconst 0), (1, .istore 5), (3, .iload 5), (5, .iload_n 2), (6, .if_icmp .ge 27), (9, .aload_n 1), (10, .aload_n 0), (11, .getfield 12), (14, .iload 5), (16, .iload_n 3), (17, .iload 4), (19, .invokevirtual 93), (22, .ifCond .ne 5), (25, .iconst 0), (26, .ireturn), (27, .iinc 5 1), (30, .goto (-27)), (33, .iconst 1), (34, .ireturn)]
theorem qX3_eachAlone : gDec mX3_eachAlone.2.1 iX3_eachAlone := by unfold gDec; decide +kernel
abbrev mX4_size : gM := (yX4_size, cX4_size, 1, (some .int))
def iX4_size : List (Nat × Instr) := [(0, .aload_n 0), (1, .getfield 20), (4, .ireturn)]
theorem qX4_size : gDec mX4_size.2.1 iX4_size := by unfold gDec; decide +kernel
abbrev mX4_has : gM := (yX4_has, cX4_has, 2, (some .boolean))
def iX4_has : List (Nat × Instr) := [(0, .iload_n 1), (1, .ifCond .lt 15), (4, .iload_n 1), (5, .aload_n 0), (6, .getfield 20), (9, .if_icmp .ge 7), (12, .iconst 1), (13, .goto 4), (16, .iconst 0), (17, .ireturn)]
theorem qX4_has : gDec mX4_has.2.1 iX4_has := by unfold gDec; decide +kernel
abbrev mX4_open : gM := (yX4_open, cX4_open, 2, (some .int))
def iX4_open : List (Nat × Instr) := [(0, .aload_n 0), (1, .getfield 20), (4, .aload_n 0), (5, .getfield 13), (8, .if_icmp .lt 5), (11, .iconst (-1)), (12, .ireturn), (13, .iconst 0), (14, .istore_n 1), (15, .iload_n 1), (16, .aload_n 0), (17, .getfield 7), (20, .if_icmp .ge 26), (23, .aload_n 0), (24, .getfield 16), (27, .aload_n 0), (28, .getfield 20), (31, .aload_n 0), (32, .getfield 7), (35, .imul), (36, .iload_n 1), (37, .iadd), (38, .iconst 0), (39, .iastore), (40, .iinc 1 1), (43, .goto (-28)), (46, .aload_n 0), (47, .dup), (48, .getfield 20), (51, .iconst 1), (52, .iadd), (53, .putfield 20), (56, .aload_n 0), (57, .getfield 20), (60, .iconst 1), (61, .isub), (62, .ireturn)]
theorem qX4_open : gDec mX4_open.2.1 iX4_open := by unfold gDec; decide +kernel
abbrev mX4_get : gM := (yX4_get, cX4_get, 4, (some .int))
def iX4_get : List (Nat × Instr) := [(0, .iload_n 1), (1, .ifCond .lt 27), (4, .iload_n 1), (5, .aload_n 0), (6, .getfield 20), (9, .if_icmp .ge 19), (12, .iload_n 2), (13, .ifCond .lt 15), (16, .iload_n 2), (17, .aload_n 0), (18, .getfield 7), (21, .if_icmp .ge 7), (24, .iconst 1), (25, .goto 4), (28, .iconst 0), (29, .istore_n 3), (30, .iload_n 3), (31, .ifCond .eq 19), (34, .aload_n 0), (35, .getfield 16), (38, .iload_n 1), (39, .aload_n 0), (40, .getfield 7), (43, .imul), (44, .iload_n 2), (45, .iadd), (46, .iaload), (47, .goto 4), (50, .iconst 0), (51, .ireturn)]
theorem qX4_get : gDec mX4_get.2.1 iX4_get := by unfold gDec; decide +kernel
abbrev mX4_put : gM := (yX4_put, cX4_put, 5, (some .int))
def iX4_put : List (Nat × Instr) := [(0, .aload_n 0), (1, .iload_n 1), (2, .iload_n 2), (3, .invokevirtual 23), (6, .istore 4), (8, .aload_n 0), (9, .iload_n 1), (10, .invokevirtual 27), (13, .ifCond .eq 29), (16, .iload_n 2), (17, .ifCond .lt 25), (20, .iload_n 2), (21, .aload_n 0), (22, .getfield 7), (25, .if_icmp .ge 17), (28, .aload_n 0), (29, .getfield 16), (32, .iload_n 1), (33, .aload_n 0), (34, .getfield 7), (37, .imul), (38, .iload_n 2), (39, .iadd), (40, .iload_n 3), (41, .iastore), (42, .iload 4), (44, .ireturn)]
theorem qX4_put : gDec mX4_put.2.1 iX4_put := by unfold gDec; decide +kernel
abbrev mX4_empty : gM := (yX4_empty, cX4_empty, 1, none)
def iX4_empty : List (Nat × Instr) := [(0, .aload_n 0), (1, .iconst 0), (2, .putfield 20), (5, .return_)]
theorem qX4_empty : gDec mX4_empty.2.1 iX4_empty := by unfold gDec; decide +kernel
abbrev mX4_takeRows : gM := (yX4_takeRows, cX4_takeRows, 2, none)
def iX4_takeRows : List (Nat × Instr) := [(0, .aload_n 1), (1, .getfield 16), (4, .arraylength), (5, .aload_n 0), (6, .getfield 16), (9, .arraylength), (10, .if_icmp .eq 4), (13, .return_), (14, .aload_n 1), (15, .getfield 16), (18, .iconst 0), (19, .aload_n 0), (20, .getfield 16), (23, .iconst 0), (24, .aload_n 0), (25, .getfield 16), (28, .arraylength), (29, .invokestatic 31), (32, .aload_n 0), (33, .aload_n 1), (34, .getfield 20), (37, .putfield 20), (40, .return_)]
theorem qX4_takeRows : gDec mX4_takeRows.2.1 iX4_takeRows := by unfold gDec; decide +kernel
abbrev mX5_sentences : gM := (yX5_sentences, cX5_sentences, 1, (some .int))
def iX5_sentences : List (Nat × Instr) := [(0, .aload_n 0), (1, .getfield 27), (4, .invokevirtual 36), (7, .ifCond .ne 7), (10, .iconst 0), (11, .goto 22), (14, .aload_n 0), (15, .getfield 27), (18, .aload_n 0), (19, .getfield 27), (22, .invokevirtual 36), (25, .iconst 1), (26, .isub), (27, .iconst 0), (28, .invokevirtual 40), (31, .iconst 1), (32, .iadd), (33, .ireturn)]
theorem qX5_sentences : gDec mX5_sentences.2.1 iX5_sentences := by unfold gDec; decide +kernel
abbrev mX5_takeAll : gM := (yX5_takeAll, cX5_takeAll, 2, none)
def iX5_takeAll : List (Nat × Instr) := [(0, .aload_n 0), (1, .getfield 12), (4, .aload_n 1), (5, .getfield 12), (8, .invokevirtual 44), (11, .aload_n 0), (12, .getfield 12), (15, .aload_n 1), (16, .getfield 12), (19, .invokevirtual 48), (22, .aload_n 0), (23, .getfield 23), (26, .aload_n 1), (27, .getfield 23), (30, .invokevirtual 52), (33, .aload_n 0), (34, .getfield 27), (37, .aload_n 1), (38, .getfield 27), (41, .invokevirtual 52), (44, .aload_n 0), (45, .getfield 30), (48, .aload_n 1), (49, .getfield 30), (52, .invokevirtual 52), (55, .aload_n 0), (56, .getfield 33), (59, .aload_n 1), (60, .getfield 33), (63, .invokevirtual 52), (66, .return_)]
theorem qX5_takeAll : gDec mX5_takeAll.2.1 iX5_takeAll := by unfold gDec; decide +kernel
abbrev mX6_isMissing : gM := (yX6_isMissing, cX6_isMissing, 1, (some .boolean))
def iX6_isMissing : List (Nat × Instr) := [(0, .aload_n 0), (1, .getfield 11), (4, .iconst (-1)), (5, .if_icmp .ne 7), (8, .iconst 1), (9, .goto 4), (12, .iconst 0), (13, .ireturn)]
theorem qX6_isMissing : gDec mX6_isMissing.2.1 iX6_isMissing := by unfold gDec; decide +kernel
abbrev mX6_lane : gM := (yX6_lane, cX6_lane, 1, (some .int))
def iX6_lane : List (Nat × Instr) := [(0, .aload_n 0), (1, .getfield 11), (4, .ireturn)]
theorem qX6_lane : gDec mX6_lane.2.1 iX6_lane := by unfold gDec; decide +kernel
abbrev mX6_size : gM := (yX6_size, cX6_size, 1, (some .int))
def iX6_size : List (Nat × Instr) := [(0, .aload_n 0), (1, .getfield 19), (4, .ireturn)]
theorem qX6_size : gDec mX6_size.2.1 iX6_size := by unfold gDec; decide +kernel
abbrev mX6_renew : gM := (yX6_renew, cX6_renew, 4, none)
def iX6_renew : List (Nat × Instr) := [(0, .aload_n 0), (1, .iload_n 1), (2, .putfield 11), (5, .aload_n 0), (6, .iload_n 2), (7, .putfield 19), (10, .iconst 0), (11, .istore_n 3), (12, .iload_n 3), (13, .aload_n 0), (14, .getfield 15), (17, .arraylength), (18, .if_icmp .ge 16), (21, .aload_n 0), (22, .getfield 15), (25, .iload_n 3), (26, .lconst 0), (27, .lastore), (28, .iinc 3 1), (31, .goto (-19)), (34, .return_)]
theorem qX6_renew : gDec mX6_renew.2.1 iX6_renew := by unfold gDec; decide +kernel
abbrev mX6_lose : gM := (yX6_lose, cX6_lose, 1, none)
def iX6_lose : List (Nat × Instr) := [(0, .aload_n 0), (1, .iconst (-1)), (2, .putfield 11), (5, .aload_n 0), (6, .iconst 0), (7, .putfield 19), (10, .return_)]
theorem qX6_lose : gDec mX6_lose.2.1 iX6_lose := by unfold gDec; decide +kernel
abbrev mX6_refusal : gM := (yX6_refusal, cX6_refusal, 4, (some .int))
def iX6_refusal : List (Nat × Instr) := [(0, .aload_n 0), (1, .invokevirtual 22), (4, .ifCond .eq 6), (7, .bipush (-11)), (9, .ireturn), (10, .aload_n 0), (11, .getfield 11), (14, .iload_n 1), (15, .if_icmp .eq 6), (18, .bipush (-12)), (20, .ireturn), (21, .iload_n 3), (22, .ifCond .lt 17), (25, .iload_n 2), (26, .ifCond .lt 13), (29, .iload_n 2), (30, .aload_n 0), (31, .getfield 19), (34, .iload_n 3), (35, .isub), (36, .if_icmp .le 8), (39, .bipush (-13)), (41, .goto 4), (44, .iconst 0), (45, .ireturn)]
theorem qX6_refusal : gDec mX6_refusal.2.1 iX6_refusal := by unfold gDec; decide +kernel
abbrev mX6_get : gM := (yX6_get, cX6_get, 2, (some .long))
def iX6_get : List (Nat × Instr) := [(0, .iload_n 1), (1, .ifCond .lt 29), (4, .iload_n 1), (5, .aload_n 0), (6, .getfield 19), (9, .if_icmp .ge 21), (12, .iload_n 1), (13, .aload_n 0), (14, .getfield 15), (17, .arraylength), (18, .if_icmp .ge 12), (21, .aload_n 0), (22, .getfield 15), (25, .iload_n 1), (26, .laload), (27, .goto 4), (30, .lconst 0), (31, .lreturn)]
theorem qX6_get : gDec mX6_get.2.1 iX6_get := by unfold gDec; decide +kernel
abbrev mX6_put : gM := (yX6_put, cX6_put, 4, none)
def iX6_put : List (Nat × Instr) := [(0, .iload_n 1), (1, .ifCond .lt 55), (4, .iload_n 1), (5, .aload_n 0), (6, .getfield 19), (9, .if_icmp .ge 47), (12, .iload_n 1), (13, .aload_n 0), (14, .getfield 15), (17, .arraylength), (18, .if_icmp .ge 38), (21, .aload_n 0), (22, .getfield 15), (25, .iload_n 1), (26, .aload_n 0), (27, .getfield 11), (30, .ifCond .ne 10), (33, .lload_n 2), (34, .l2i), (35, .i2s), (36, .i2l), (37, .goto 18), (40, .aload_n 0), (41, .getfield 11), (44, .iconst 1), (45, .if_icmp .ne 9), (48, .lload_n 2), (49, .l2i), (50, .i2l), (51, .goto 4), (54, .lload_n 2), (55, .lastore), (56, .return_)]
theorem qX6_put : gDec mX6_put.2.1 iX6_put := by unfold gDec; decide +kernel
abbrev mX6_takeItems : gM := (yX6_takeItems, cX6_takeItems, 5, none)
def iX6_takeItems : List (Nat × Instr) := [(0, .aload_n 1), (1, .aload_n 0), (2, .getfield 11), (5, .iload_n 2), (6, .iload 4), (8, .invokevirtual 26), (11, .ifCond .ne 32), (14, .aload_n 0), (15, .aload_n 0), (16, .getfield 11), (19, .iload_n 3), (20, .iload 4), (22, .invokevirtual 26), (25, .ifCond .ne 18), (28, .aload_n 1), (29, .getfield 15), (32, .iload_n 2), (33, .aload_n 0), (34, .getfield 15), (37, .iload_n 3), (38, .iload 4), (40, .invokestatic 30), (43, .return_)]
theorem qX6_takeItems : gDec mX6_takeItems.2.1 iX6_takeItems := by unfold gDec; decide +kernel
abbrev mX7_canHold : gM := (yX7_canHold, cX7_canHold, 5, (some .boolean))
def iX7_canHold : List (Nat × Instr) := [(0, .iload_n 2), (1, .iconst 1), (2, .if_icmp .lt 9), (5, .iload_n 2), (6, .bipush 8), (8, .if_icmp .le 5), (11, .iconst 0), (12, .ireturn), (13, .iconst 0), (14, .istore_n 3), (15, .iload_n 3), (16, .iload_n 2), (17, .if_icmp .ge 32), (20, .lload_n 0), (21, .iload_n 3), (22, .invokestatic 15), (25, .istore 4), (27, .iload 4), (29, .bipush 32), (31, .if_icmp .lt 10), (34, .iload 4), (36, .bipush 126), (38, .if_icmp .le 5), (41, .iconst 0), (42, .ireturn), (43, .iinc 3 1), (46, .goto (-31)), (49, .iconst 1), (50, .ireturn)]
theorem qX7_canHold : gDec mX7_canHold.2.1 iX7_canHold := by unfold gDec; decide +kernel
abbrev mX7_byteOf : gM := (yX7_byteOf, cX7_byteOf, 3, (some .int))
def iX7_byteOf : List (Nat × Instr) := [(0, .lload_n 0), (1, .bipush 8), (3, .iload_n 2), (4, .imul), (5, .lushr), (6, .l2i), (7, .sipush 255), (10, .iand), (11, .ireturn)]
theorem qX7_byteOf : gDec mX7_byteOf.2.1 iX7_byteOf := by unfold gDec; decide +kernel
abbrev mX7_size : gM := (yX7_size, cX7_size, 1, (some .int))
def iX7_size : List (Nat × Instr) := [(0, .aload_n 0), (1, .getfield 19), (4, .ireturn)]
theorem qX7_size : gDec mX7_size.2.1 iX7_size := by unfold gDec; decide +kernel
abbrev mX7_append : gM := (yX7_append, cX7_append, 5, (some .boolean))
def iX7_append : List (Nat × Instr) := [(0, .iload_n 3), (1, .ifCond .lt 14), (4, .iload_n 3), (5, .bipush 100), (7, .aload_n 0), (8, .getfield 19), (11, .isub), (12, .if_icmp .le 5), (15, .iconst 0), (16, .ireturn), (17, .iload_n 3), (18, .iconst 1), (19, .isub), (20, .istore 4), (22, .iload 4), (24, .ifCond .lt 34), (27, .aload_n 0), (28, .getfield 11), (31, .aload_n 0), (32, .getfield 19), (35, .lload_n 1), (36, .iload 4), (38, .invokestatic 15), (41, .iastore), (42, .aload_n 0), (43, .dup), (44, .getfield 19), (47, .iconst 1), (48, .iadd), (49, .putfield 19), (52, .iinc 4 (-1)), (55, .goto (-33)), (58, .iconst 1), (59, .ireturn)]
theorem qX7_append : gDec mX7_append.2.1 iX7_append := by unfold gDec; decide +kernel
abbrev mX7_begin : gM := (yX7_begin, cX7_begin, 1, none)
def iX7_begin : List (Nat × Instr) := [(0, .aload_n 0), (1, .iconst 0), (2, .putfield 23), (5, .aload_n 0), (6, .iconst 0), (7, .putfield 26), (10, .return_)]
theorem qX7_begin : gDec mX7_begin.2.1 iX7_begin := by unfold gDec; decide +kernel
abbrev mX7_finish : gM := (yX7_finish, cX7_finish, 1, (some .int))
def iX7_finish : List (Nat × Instr) := [(0, .aload_n 0), (1, .invokevirtual 29), (4, .iconst (-1)), (5, .if_icmp .eq 11), (8, .aload_n 0), (9, .aload_n 0), (10, .getfield 23), (13, .invokevirtual 33), (16, .aload_n 0), (17, .iconst 0), (18, .putfield 19), (21, .aload_n 0), (22, .getfield 26), (25, .ireturn)]
theorem qX7_finish : gDec mX7_finish.2.1 iX7_finish := by unfold gDec; decide +kernel
abbrev mX7_failAt : gM := (yX7_failAt, cX7_failAt, 2, none)
def iX7_failAt : List (Nat × Instr) := [(0, .aload_n 0), (1, .getfield 26), (4, .ifCond .ne 11), (7, .aload_n 0), (8, .bipush (-20)), (10, .iload_n 1), (11, .isub), (12, .putfield 26), (15, .return_)]
theorem qX7_failAt : gDec mX7_failAt.2.1 iX7_failAt := by unfold gDec; decide +kernel
abbrev mX7_placeOfNext : gM := (yX7_placeOfNext, cX7_placeOfNext, 1, (some .int))
def iX7_placeOfNext : List (Nat × Instr) := [(0, .aload_n 0), (1, .invokevirtual 29), (4, .pop), (5, .aload_n 0), (6, .getfield 23), (9, .ireturn)]
theorem qX7_placeOfNext : gDec mX7_placeOfNext.2.1 iX7_placeOfNext := by unfold gDec; decide +kernel
abbrev mX7_takes : gM := (yX7_takes, cX7_takes, 2, (some .boolean))
def iX7_takes : List (Nat × Instr) := [(0, .aload_n 0), (1, .getfield 26), (4, .ifCond .ne 11), (7, .aload_n 0), (8, .invokevirtual 29), (11, .iload_n 1), (12, .if_icmp .eq 5), (15, .iconst 0), (16, .ireturn), (17, .aload_n 0), (18, .dup), (19, .getfield 23), (22, .iconst 1), (23, .iadd), (24, .putfield 23), (27, .iconst 1), (28, .ireturn)]
theorem qX7_takes : gDec mX7_takes.2.1 iX7_takes := by unfold gDec; decide +kernel
abbrev mX7_needs : gM := (yX7_needs, cX7_needs, 2, none)
def iX7_needs : List (Nat × Instr) := [(0, .aload_n 0), (1, .iload_n 1), (2, .invokevirtual 37), (5, .ifCond .ne 11), (8, .aload_n 0), (9, .aload_n 0), (10, .getfield 23), (13, .invokevirtual 33), (16, .return_)]
theorem qX7_needs : gDec mX7_needs.2.1 iX7_needs := by unfold gDec; decide +kernel
abbrev mX7_readDigit : gM := (yX7_readDigit, cX7_readDigit, 3, (some .int))
def iX7_readDigit : List (Nat × Instr) := [(0, .aload_n 0), (1, .getfield 26), (4, .ifCond .ne 13), (7, .aload_n 0), (8, .invokevirtual 29), (11, .bipush 48), (13, .isub), (14, .goto 4), (17, .iconst (-1)), (18, .istore_n 2), (19, .iload_n 2), (20, .ifCond .lt 8), (23, .iload_n 2), (24, .iload_n 1), (25, .if_icmp .le 13), (28, .aload_n 0), (29, .aload_n 0), (30, .getfield 23), (33, .invokevirtual 33), (36, .iconst 0), (37, .ireturn), (38, .aload_n 0), (39, .dup), (40, .getfield 23), (43, .iconst 1), (44, .iadd), (45, .putfield 23), (48, .iload_n 2), (49, .ireturn)]
theorem qX7_readDigit : gDec mX7_readDigit.2.1 iX7_readDigit := by unfold gDec; decide +kernel
abbrev mX7_readSigned : gM := (yX7_readSigned, cX7_readSigned, 3, (some .int))
def iX7_readSigned : List (Nat × Instr) := [(0, .aload_n 0), (1, .bipush 45), (3, .invokevirtual 37), (6, .istore_n 1), (7, .iload_n 1), (8, .ifCond .ne 9), (11, .aload_n 0), (12, .bipush 43), (14, .invokevirtual 41), (17, .aload_n 0), (18, .bipush 9), (20, .invokevirtual 45), (23, .istore_n 2), (24, .iload_n 1), (25, .ifCond .eq 8), (28, .iload_n 2), (29, .ineg), (30, .goto 4), (33, .iload_n 2), (34, .ireturn)]
theorem qX7_readSigned : gDec mX7_readSigned.2.1 iX7_readSigned := by unfold gDec; decide +kernel
abbrev mX7_readNumber : gM := (yX7_readNumber, cX7_readNumber, 4, (some .int))
def iX7_readNumber : List (Nat × Instr) := [(0, .aload_n 0), (1, .bipush 9), (3, .invokevirtual 45), (6, .istore_n 2), (7, .aload_n 0), (8, .getfield 23), (11, .iconst 1), (12, .isub), (13, .istore_n 3), (14, .aload_n 0), (15, .getfield 26), (18, .ifCond .ne 66), (21, .aload_n 0), (22, .getfield 23), (25, .aload_n 0), (26, .getfield 19), (29, .if_icmp .ge 55), (32, .aload_n 0), (33, .getfield 11), (36, .aload_n 0), (37, .getfield 23), (40, .iaload), (41, .invokestatic 49), (44, .ifCond .eq 40), (47, .bipush 10), (49, .iload_n 2), (50, .imul), (51, .aload_n 0), (52, .getfield 11), (55, .aload_n 0), (56, .getfield 23), (59, .iaload), (60, .iadd), (61, .bipush 48), (63, .isub), (64, .sipush 1000), (67, .invokestatic 53), (70, .istore_n 2), (71, .aload_n 0), (72, .dup), (73, .getfield 23), (76, .iconst 1), (77, .iadd), (78, .putfield 23), (81, .goto (-67)), (84, .iload_n 2), (85, .iload_n 1), (86, .if_icmp .le 8), (89, .aload_n 0), (90, .iload_n 3), (91, .invokevirtual 33), (94, .iload_n 2), (95, .ireturn)]
theorem qX7_readNumber : gDec mX7_readNumber.2.1 iX7_readNumber := by unfold gDec; decide +kernel
abbrev mX7_isDigit : gM := (yX7_isDigit, cX7_isDigit, 1, (some .boolean))
def iX7_isDigit : List (Nat × Instr) := [(0, .iload_n 0), (1, .bipush 48), (3, .if_icmp .lt 13), (6, .iload_n 0), (7, .bipush 57), (9, .if_icmp .gt 7), (12, .iconst 1), (13, .goto 4), (16, .iconst 0), (17, .ireturn)]
theorem qX7_isDigit : gDec mX7_isDigit.2.1 iX7_isDigit := by unfold gDec; decide +kernel
abbrev mX7_next : gM := (yX7_next, cX7_next, 1, (some .int))
def iX7_next : List (Nat × Instr) := [(0, .aload_n 0), (1, .getfield 23), (4, .aload_n 0), (5, .getfield 19), (8, .if_icmp .ge 30), (11, .aload_n 0), (12, .getfield 11), (15, .aload_n 0), (16, .getfield 23), (19, .iaload), (20, .bipush 32), (22, .if_icmp .ne 16), (25, .aload_n 0), (26, .dup), (27, .getfield 23), (30, .iconst 1), (31, .iadd), (32, .putfield 23), (35, .goto (-35)), (38, .aload_n 0), (39, .getfield 23), (42, .aload_n 0), (43, .getfield 19), (46, .if_icmp .ge 15), (49, .aload_n 0), (50, .getfield 11), (53, .aload_n 0), (54, .getfield 23), (57, .iaload), (58, .goto 4), (61, .iconst (-1)), (62, .ireturn)]
theorem qX7_next : gDec mX7_next.2.1 iX7_next := by unfold gDec; decide +kernel
abbrev mX8_thing : gM := (yX8_thing, cX8_thing, 4, (some .int))
def iX8_thing : List (Nat × Instr) := [(0, .iload_n 1), (1, .iload_n 2), (2, .invokestatic 70), (5, .ifCond .eq 11), (8, .iconst 2), (9, .iload_n 3), (10, .invokestatic 74), (13, .ifCond .ne 5), (16, .iconst (-1)), (17, .ireturn), (18, .aload_n 0), (19, .getfield 19), (22, .getfield 77), (25, .iload_n 1), (26, .iload_n 2), (27, .iload_n 3), (28, .invokestatic 80), (31, .ireturn)]
theorem qX8_thing : gDec mX8_thing.2.1 iX8_thing := by unfold gDec; decide +kernel
abbrev mX8_make : gM := (yX8_make, cX8_make, 4, (some .int))
def iX8_make : List (Nat × Instr) := [(0, .aload_n 0), (1, .getfield 19), (4, .getfield 77), (7, .iload_n 1), (8, .invokevirtual 84), (11, .ifCond .eq 11), (14, .iload_n 2), (15, .iload_n 3), (16, .invokestatic 74), (19, .ifCond .ne 6), (22, .ldc 88), (24, .ireturn), (25, .aload_n 0), (26, .getfield 19), (29, .getfield 77), (32, .iload_n 1), (33, .iload_n 2), (34, .iload_n 3), (35, .invokevirtual 89), (38, .ireturn)]
theorem qX8_make : gDec mX8_make.2.1 iX8_make := by unfold gDec; decide +kernel
abbrev mX8_at : gM := (yX8_at, cX8_at, 4, (some .int))
def iX8_at : List (Nat × Instr) := [(0, .aload_n 0), (1, .getfield 19), (4, .getfield 77), (7, .iload_n 1), (8, .invokevirtual 84), (11, .ifCond .eq 19), (14, .iload_n 2), (15, .invokestatic 93), (18, .ifCond .eq 12), (21, .iload_n 3), (22, .ifCond .lt 8), (25, .iload_n 3), (26, .iconst 1), (27, .if_icmp .le 6), (30, .ldc 88), (32, .ireturn), (33, .aload_n 0), (34, .getfield 19), (37, .getfield 77), (40, .iload_n 1), (41, .iload_n 3), (42, .iload_n 2), (43, .invokevirtual 96), (46, .ireturn)]
theorem qX8_at : gDec mX8_at.2.1 iX8_at := by unfold gDec; decide +kernel
abbrev mX8_person : gM := (yX8_person, cX8_person, 3, (some .int))
def iX8_person : List (Nat × Instr) := [(0, .aload_n 0), (1, .getfield 19), (4, .getfield 99), (7, .iload_n 1), (8, .iload_n 2), (9, .invokestatic 102), (12, .ireturn)]
theorem qX8_person : gDec mX8_person.2.1 iX8_person := by unfold gDec; decide +kernel
abbrev mX8_walk : gM := (yX8_walk, cX8_walk, 6, (some .int))
def iX8_walk : List (Nat × Instr) := [(0, .aload_n 0), (1, .getfield 19), (4, .getfield 99), (7, .iload_n 1), (8, .invokevirtual 106), (11, .ifCond .eq 11), (14, .iload_n 2), (15, .iload_n 3), (16, .invokestatic 70), (19, .ifCond .ne 5), (22, .iconst (-1)), (23, .ireturn), (24, .aload_n 0), (25, .getfield 19), (28, .getfield 99), (31, .iload_n 1), (32, .iconst 0), (33, .iload_n 2), (34, .invokevirtual 107), (37, .istore 4), (39, .aload_n 0), (40, .getfield 19), (43, .getfield 99), (46, .iload_n 1), (47, .iconst 1), (48, .iload_n 3), (49, .invokevirtual 107), (52, .istore 5), (54, .bipush 100), (56, .iload 4), (58, .imul), (59, .iload 5), (61, .iadd), (62, .ireturn)]
theorem qX8_walk : gDec mX8_walk.2.1 iX8_walk := by unfold gDec; decide +kernel
abbrev mX8_rule : gM := (yX8_rule, cX8_rule, 3, (some .int))
def iX8_rule : List (Nat × Instr) := [(0, .iload_n 1), (1, .ifCond .lt 17), (4, .iload_n 1), (5, .iconst 1), (6, .if_icmp .gt 12), (9, .iload_n 2), (10, .ifCond .lt 8), (13, .iload_n 2), (14, .iconst 1), (15, .if_icmp .le 5), (18, .iconst (-1)), (19, .ireturn), (20, .aload_n 0), (21, .getfield 19), (24, .getfield 77), (27, .iload_n 1), (28, .iload_n 2), (29, .invokevirtual 108), (32, .ireturn)]
theorem qX8_rule : gDec mX8_rule.2.1 iX8_rule := by unfold gDec; decide +kernel
abbrev mX8_type : gM := (yX8_type, cX8_type, 4, (some .int))
def iX8_type : List (Nat × Instr) := [(0, .lload_n 1), (1, .iload_n 3), (2, .invokestatic 112), (5, .ifCond .ne 5), (8, .iconst (-1)), (9, .ireturn), (10, .aload_n 0), (11, .getfield 29), (14, .lload_n 1), (15, .iload_n 3), (16, .invokevirtual 116), (19, .ifCond .eq 13), (22, .aload_n 0), (23, .getfield 29), (26, .invokevirtual 119), (29, .goto 5), (32, .bipush (-3)), (34, .ireturn)]
theorem qX8_type : gDec mX8_type.2.1 iX8_type := by unfold gDec; decide +kernel
abbrev mX8_things : gM := (yX8_things, cX8_things, 2, (some .int))
def iX8_things : List (Nat × Instr) := [(0, .aload_n 0), (1, .getfield 36), (4, .invokevirtual 123), (7, .aload_n 0), (8, .getfield 29), (11, .invokevirtual 126), (14, .iconst 1), (15, .istore_n 1), (16, .iload_n 1), (17, .iconst 5), (18, .if_icmp .gt 33), (21, .aload_n 0), (22, .invokevirtual 129), (25, .iload_n 1), (26, .iconst 5), (27, .if_icmp .eq 24), (30, .aload_n 0), (31, .getfield 29), (34, .bipush 59), (36, .invokevirtual 132), (39, .ifCond .ne 6), (42, .goto 9), (45, .iinc 1 1), (48, .goto (-32)), (51, .aload_n 0), (52, .getfield 29), (55, .invokevirtual 136), (58, .istore_n 1), (59, .iload_n 1), (60, .ifCond .ge 5), (63, .iload_n 1), (64, .ireturn), (65, .aload_n 0), (66, .getfield 19), (69, .getfield 77), (72, .aload_n 0), (73, .getfield 36), (76, .invokevirtual 139), (79, .aload_n 0), (80, .getfield 19), (83, .getfield 77), (86, .invokevirtual 143), (89, .ireturn)]
theorem qX8_things : gDec mX8_things.2.1 iX8_things := by unfold gDec; decide +kernel
abbrev mX8_talk : gM := (yX8_talk, cX8_talk, 2, (some .int))
def iX8_talk : List (Nat × Instr) := [(0, .aload_n 0), (1, .getfield 45), (4, .invokevirtual 144), (7, .aload_n 0), (8, .getfield 29), (11, .invokevirtual 126), (14, .iconst 1), (15, .istore_n 1), (16, .iload_n 1), (17, .bipush 6), (19, .if_icmp .gt 37), (22, .aload_n 0), (23, .iload_n 1), (24, .iconst 1), (25, .isub), (26, .invokevirtual 145), (29, .iload_n 1), (30, .bipush 6), (32, .if_icmp .eq 24), (35, .aload_n 0), (36, .getfield 29), (39, .bipush 59), (41, .invokevirtual 132), (44, .ifCond .ne 6), (47, .goto 9), (50, .iinc 1 1), (53, .goto (-37)), (56, .aload_n 0), (57, .getfield 29), (60, .invokevirtual 136), (63, .istore_n 1), (64, .iload_n 1), (65, .ifCond .ge 5), (68, .iload_n 1), (69, .ireturn), (70, .aload_n 0), (71, .getfield 19), (74, .getfield 149), (77, .aload_n 0), (78, .getfield 45), (81, .invokevirtual 152), (84, .aload_n 0), (85, .getfield 19), (88, .invokevirtual 153), (91, .ireturn)]
theorem qX8_talk : gDec mX8_talk.2.1 iX8_talk := by unfold gDec; decide +kernel
abbrev mX8_count : gM := (yX8_count, cX8_count, 2, (some .int))
def iX8_count : List (Nat × Instr) := [(0, .iload_n 1), (40, .aload_n 0), (41, .getfield 19), (44, .getfield 77), (47, .invokevirtual 143), (50, .ireturn), (51, .aload_n 0), (52, .getfield 19), (55, .getfield 99), (58, .invokevirtual 156), (61, .ireturn), (62, .aload_n 0), (63, .getfield 19), (66, .invokevirtual 153), (69, .ireturn), (70, .aload_n 0), (71, .getfield 19), (74, .getfield 149), (77, .invokevirtual 156), (80, .ireturn), (81, .aload_n 0), (82, .getfield 19), (85, .getfield 157), (88, .invokevirtual 156), (91, .ireturn), (92, .aload_n 0), (93, .getfield 19), (96, .getfield 160), (99, .invokevirtual 156), (102, .ireturn), (103, .iconst (-1)), (104, .ireturn)]
theorem tX8_count_1 : decode mX8_count.2.1 1 = .ok (.tableswitch 102 0 5 #[39, 50, 61, 69, 80, 91], 39) := by decide +kernel
theorem qX8_count : gDec mX8_count.2.1 iX8_count := by unfold gDec; decide +kernel
abbrev mX8_meets : gM := (yX8_meets, cX8_meets, 5, (some .int))
def iX8_meets : List (Nat × Instr) := [(0, .iload_n 1), (1, .iload_n 2), (2, .invokestatic 70), (5, .ifCond .eq 14), (8, .iload_n 3), (9, .i2l), (10, .iload 4), (12, .i2l), (13, .invokestatic 163), (16, .ifCond .ne 5), (19, .iconst (-1)), (20, .ireturn), (21, .aload_n 0), (22, .getfield 19), (25, .getfield 77), (28, .iload_n 1), (29, .iload_n 2), (30, .iload_n 3), (31, .iload 4), (33, .iconst 0), (34, .invokevirtual 167), (37, .ireturn)]
theorem qX8_meets : gDec mX8_meets.2.1 iX8_meets := by unfold gDec; decide +kernel
abbrev mX8_means : gM := (yX8_means, cX8_means, 5, (some .int))
def iX8_means : List (Nat × Instr) := [(0, .aload_n 0), (1, .getfield 19), (4, .getfield 99), (7, .iload_n 1), (8, .invokevirtual 106), (11, .ifCond .eq 21), (14, .iload_n 2), (15, .i2l), (16, .iload_n 3), (17, .i2l), (18, .invokestatic 163), (21, .ifCond .eq 11), (24, .iload 4), (26, .invokestatic 93), (29, .ifCond .ne 5), (32, .iconst (-1)), (33, .ireturn), (34, .aload_n 0), (35, .iload_n 1), (36, .iload_n 2), (37, .iload_n 3), (38, .iload 4), (40, .invokevirtual 171), (43, .ireturn)]
theorem qX8_means : gDec mX8_means.2.1 iX8_means := by unfold gDec; decide +kernel
abbrev mX8_both : gM := (yX8_both, cX8_both, 8, (some .int))
def iX8_both : List (Nat × Instr) := [(0, .aload_n 0), (1, .getfield 19), (4, .getfield 99), (7, .iload_n 1), (8, .invokevirtual 106), (11, .ifCond .eq 40), (14, .iload_n 2), (15, .i2l), (16, .iload_n 3), (17, .i2l), (18, .invokestatic 163), (21, .ifCond .eq 30), (24, .aload_n 0), (25, .getfield 19), (28, .getfield 99), (31, .iload 4), (33, .invokevirtual 106), (36, .ifCond .eq 15), (39, .iload 5), (41, .i2l), (42, .iload 6), (44, .i2l), (45, .invokestatic 163), (48, .ifCond .ne 5), (51, .iconst (-1)), (52, .ireturn), (53, .aload_n 0), (54, .iload_n 1), (55, .iload_n 2), (56, .iload_n 3), (57, .iconst 0), (58, .invokevirtual 175), (61, .aload_n 0), (62, .iload 4), (64, .iload 5), (66, .iload 6), (68, .iconst 0), (69, .invokevirtual 175), (72, .iand), (73, .istore 7), (75, .aload_n 0), (76, .getfield 19), (79, .getfield 77), (82, .iload 7), (84, .iload_n 2), (85, .iload_n 3), (86, .iconst 0), (87, .invokevirtual 177), (90, .ireturn)]
theorem qX8_both : gDec mX8_both.2.1 iX8_both := by unfold gDec; decide +kernel
abbrev mX8_says : gM := (yX8_says, cX8_says, 3, (some .int))
def iX8_says : List (Nat × Instr) := [(0, .iload_n 1), (1, .ifCond .lt 21), (4, .iload_n 1), (5, .aload_n 0), (6, .getfield 19), (9, .invokevirtual 153), (12, .if_icmp .ge 10), (15, .iload_n 2), (16, .invokestatic 93), (19, .ifCond .ne 5), (22, .iconst (-1)), (23, .ireturn), (24, .aload_n 0), (25, .iload_n 1), (26, .iload_n 2), (27, .invokevirtual 180), (30, .ireturn)]
theorem qX8_says : gDec mX8_says.2.1 iX8_says := by unfold gDec; decide +kernel
abbrev mX8_dark : gM := (yX8_dark, cX8_dark, 4, (some .int))
def iX8_dark : List (Nat × Instr) := [(0, .iload_n 1), (1, .invokestatic 93), (4, .ifCond .ne 5), (7, .iconst (-1)), (8, .ireturn), (9, .iconst 0), (10, .istore_n 2), (11, .iconst 0), (12, .istore_n 3), (13, .iload_n 3), (14, .aload_n 0), (15, .getfield 19), (18, .invokevirtual 153), (21, .if_icmp .ge 27), (24, .aload_n 0), (25, .iload_n 3), (26, .iload_n 1), (27, .invokevirtual 180), (30, .invokestatic 183), (33, .ifCond .ne 9), (36, .iload_n 2), (37, .iconst 1), (38, .iload_n 3), (39, .ishl), (40, .ior), (41, .istore_n 2), (42, .iinc 3 1), (45, .goto (-32)), (48, .iload_n 2), (49, .ireturn)]
theorem qX8_dark : gDec mX8_dark.2.1 iX8_dark := by unfold gDec; decide +kernel
abbrev mX8_when : gM := (yX8_when, cX8_when, 6, (some .int))
def iX8_when : List (Nat × Instr) := [(0, .aload_n 0), (1, .getfield 19), (4, .getfield 99), (7, .iload_n 1), (8, .invokevirtual 106), (11, .ifCond .eq 28), (14, .iload_n 2), (15, .i2l), (16, .iload_n 3), (17, .i2l), (18, .invokestatic 163), (21, .ifCond .eq 18), (24, .aload_n 0), (25, .getfield 19), (28, .getfield 77), (31, .iload 4), (33, .invokevirtual 84), (36, .ifCond .ne 5), (39, .iconst (-1)), (40, .ireturn), (41, .iconst 0), (42, .istore 5), (44, .iload 5), (46, .bipush 60), (48, .if_icmp .gt 28), (51, .aload_n 0), (52, .iload_n 1), (53, .iload_n 2), (54, .iload_n 3), (55, .iload 5), (57, .invokevirtual 171), (60, .iconst 1), (61, .iload 4), (63, .ishl), (64, .if_icmp .ne 6), (67, .iload 5), (69, .ireturn), (70, .iinc 5 1), (73, .goto (-29)), (76, .bipush (-4)), (78, .ireturn)]
theorem qX8_when : gDec mX8_when.2.1 iX8_when := by unfold gDec; decide +kernel
abbrev mX8_misread : gM := (yX8_misread, cX8_misread, 5, (some .int))
def iX8_misread : List (Nat × Instr) := [(0, .aload_n 0), (1, .iload_n 1), (2, .iload 4), (4, .invokevirtual 186), (7, .ifCond .eq 13), (10, .iload_n 2), (11, .i2l), (12, .iload_n 3), (13, .i2l), (14, .invokestatic 163), (17, .ifCond .ne 5), (20, .iconst (-1)), (21, .ireturn), (22, .aload_n 0), (23, .iload 4), (25, .iload_n 2), (26, .iload_n 3), (27, .iconst 0), (28, .invokevirtual 171), (31, .ireturn)]
theorem qX8_misread : gDec mX8_misread.2.1 iX8_misread := by unfold gDec; decide +kernel
abbrev mX8_bargain : gM := (yX8_bargain, cX8_bargain, 10, (some .int))
def iX8_bargain : List (Nat × Instr) := [(0, .aload_n 0), (1, .iload_n 1), (2, .iload 4), (4, .invokevirtual 186), (7, .ifCond .eq 25), (10, .iload_n 2), (11, .i2l), (12, .iload_n 3), (13, .i2l), (14, .invokestatic 163), (17, .ifCond .eq 15), (20, .iload 5), (22, .i2l), (23, .iload 6), (25, .i2l), (26, .invokestatic 163), (29, .ifCond .ne 5), (32, .iconst (-1)), (33, .ireturn), (34, .aload_n 0), (35, .iload_n 1), (36, .iload_n 2), (37, .iload_n 3), (38, .iconst 0), (39, .invokevirtual 171), (42, .istore 7), (44, .aload_n 0), (45, .iload 4), (47, .iload 5), (49, .iload 6), (51, .iconst 0), (52, .invokevirtual 171), (55, .istore 8), (57, .iload 7), (59, .invokestatic 183), (62, .ifCond .eq 22), (65, .iload 8), (67, .invokestatic 183), (70, .ifCond .eq 14), (73, .iload 7), (75, .iload 8), (77, .if_icmp .eq 7), (80, .iconst 1), (81, .goto 4), (84, .iconst 0), (85, .istore 9), (87, .iload 9), (89, .ifCond .eq 32), (92, .aload_n 0), (93, .iload 4), (95, .iload_n 2), (96, .iload_n 3), (97, .iconst 0), (98, .invokevirtual 171), (101, .iload 7), (103, .if_icmp .ne 18), (106, .aload_n 0), (107, .iload_n 1), (108, .iload 5), (110, .iload 6), (112, .iconst 0), (113, .invokevirtual 171), (116, .iload 8), (118, .if_icmp .eq 6), (121, .bipush (-2)), (123, .ireturn), (124, .bipush 10), (126, .iload 7), (128, .invokestatic 189), (131, .imul), (132, .iload 8), (134, .invokestatic 189), (137, .iadd), (138, .ireturn)]
theorem qX8_bargain : gDec mX8_bargain.2.1 iX8_bargain := by unfold gDec; decide +kernel
abbrev mX8_share : gM := (yX8_share, cX8_share, 8, (some .int))
def iX8_share : List (Nat × Instr) := [(0, .aload_n 0), (1, .getfield 19), (4, .getfield 77), (7, .iload_n 1), (8, .invokevirtual 84), (11, .ifCond .eq 22), (14, .iload_n 2), (15, .iload_n 3), (16, .invokestatic 70), (19, .ifCond .eq 14), (22, .iload 4), (24, .ifCond .lt 9), (27, .iload 4), (29, .iconst 1), (30, .if_icmp .le 5), (33, .iconst (-1)), (34, .ireturn), (35, .aload_n 0), (36, .getfield 10), (39, .aload_n 0), (40, .getfield 19), (43, .getfield 77), (46, .iload_n 1), (47, .iload_n 2), (48, .iload_n 3), (49, .invokevirtual 195), (52, .istore 5), (54, .bipush 80), (56, .istore 6), (58, .iload 6), (60, .istore 7), (62, .iload 7), (64, .iconst 1), (65, .if_icmp .le 39), (68, .iload 5), (70, .iload 7), (72, .irem), (73, .ifCond .ne 25), (76, .iload 6), (78, .iload 7), (80, .irem), (81, .ifCond .ne 17), (84, .iload 5), (86, .iload 7), (88, .idiv), (89, .istore 5), (91, .iload 6), (93, .iload 7), (95, .idiv), (96, .istore 6), (98, .iinc 7 (-1)), (101, .goto (-39)), (104, .iload 4), (106, .ifCond .ne 8), (109, .iload 5), (111, .goto 5), (114, .iload 6), (116, .ireturn)]
theorem qX8_share : gDec mX8_share.2.1 iX8_share := by unfold gDec; decide +kernel
abbrev mX8_ground : gM := (yX8_ground, cX8_ground, 6, (some .int))
def iX8_ground : List (Nat × Instr) := [(0, .aload_n 0), (1, .getfield 19), (4, .getfield 77), (7, .iload_n 1), (8, .invokevirtual 84), (11, .ifCond .eq 15), (14, .iload_n 2), (15, .iconst (-1)), (16, .if_icmp .lt 10), (19, .iload_n 2), (20, .sipush 441), (23, .if_icmp .lt 5), (26, .iconst (-1)), (27, .ireturn), (28, .iload_n 2), (29, .ifCond .lt 35), (32, .aload_n 0), (33, .getfield 10), (36, .aload_n 0), (37, .getfield 19), (40, .getfield 77), (43, .iload_n 1), (44, .iload_n 2), (45, .bipush 21), (47, .irem), (48, .iload_n 2), (49, .bipush 21), (51, .idiv), (52, .invokevirtual 198), (55, .ifCond .eq 7), (58, .iconst 1), (59, .goto 4), (62, .iconst 0), (63, .ireturn), (64, .iconst 0), (65, .istore_n 3), (66, .iconst 0), (67, .istore 4), (69, .iload 4), (71, .bipush 21), (73, .if_icmp .ge 55), (76, .iconst 0), (77, .istore 5), (79, .iload 5), (81, .bipush 21), (83, .if_icmp .ge 39), (86, .iload_n 3), (87, .aload_n 0), (88, .getfield 10), (91, .aload_n 0), (92, .getfield 19), (95, .getfield 77), (98, .iload_n 1), (99, .iload 5), (101, .iload 4), (103, .invokevirtual 198), (106, .ifCond .eq 7), (109, .iconst 1), (110, .goto 4), (113, .iconst 0), (114, .iadd), (115, .istore_n 3), (116, .iinc 5 1), (119, .goto (-40)), (122, .iinc 4 1), (125, .goto (-56)), (128, .iload_n 3), (129, .ireturn)]
theorem qX8_ground : gDec mX8_ground.2.1 iX8_ground := by unfold gDec; decide +kernel
abbrev mX8_fewest : gM := (yX8_fewest, cX8_fewest, 4, (some .int))
def iX8_fewest : List (Nat × Instr) := [(0, .aload_n 0), (1, .iload_n 1), (2, .invokevirtual 202), (5, .ifCond .eq 15), (8, .iload_n 1), (9, .ifCond .eq 11), (12, .iload_n 2), (13, .iload_n 3), (14, .invokestatic 70), (17, .ifCond .ne 5), (20, .iconst (-1)), (21, .ireturn), (22, .aload_n 0), (23, .getfield 52), (26, .aload_n 0), (27, .getfield 19), (30, .getfield 77), (33, .aload_n 0), (34, .getfield 10), (37, .iload_n 1), (38, .iload_n 2), (39, .iload_n 3), (40, .invokevirtual 205), (43, .ireturn)]
theorem qX8_fewest : gDec mX8_fewest.2.1 iX8_fewest := by unfold gDec; decide +kernel
abbrev mX8_aside : gM := (yX8_aside, cX8_aside, 7, (some .int))
def iX8_aside : List (Nat × Instr) := [(0, .aload_n 0), (1, .iload_n 1), (2, .invokevirtual 202), (5, .ifCond .eq 28), (8, .iload_n 1), (9, .ifCond .eq 24), (12, .iload_n 2), (13, .iload_n 3), (14, .invokestatic 70), (17, .ifCond .eq 16), (20, .iload 4), (22, .iconst 1), (23, .if_icmp .lt 10), (26, .iload 4), (28, .bipush 9), (30, .if_icmp .le 5), (33, .iconst (-1)), (34, .ireturn), (35, .iconst 0), (36, .istore 5), (38, .iload 5), (40, .bipush 6), (42, .if_icmp .gt 30), (45, .aload_n 0), (46, .iload 5), (48, .iload_n 1), (49, .iload_n 2), (50, .iload_n 3), (51, .iload 4), (53, .invokevirtual 209), (56, .istore 6), (58, .iload 6), (60, .ifCond .lt 6), (63, .iload 6), (65, .ireturn), (66, .iinc 5 1), (69, .goto (-31)), (72, .bipush (-4)), (74, .ireturn)]
theorem qX8_aside : gDec mX8_aside.2.1 iX8_aside := by unfold gDec; decide +kernel
abbrev mX8_meant : gM := (yX8_meant, cX8_meant, 5, (some .int))
def iX8_meant : List (Nat × Instr) := [(0, .iload_n 1), (1, .i2l), (2, .iload_n 2), (3, .i2l), (4, .invokestatic 163), (7, .ifCond .eq 11), (10, .aload_n 0), (11, .iload_n 3), (12, .invokevirtual 202), (15, .ifCond .ne 5), (18, .iconst (-1)), (19, .ireturn), (20, .aload_n 0), (21, .getfield 19), (24, .getfield 160), (27, .invokevirtual 212), (30, .istore 4), (32, .iload 4), (34, .ifCond .ge 6), (37, .bipush (-3)), (39, .ireturn), (40, .aload_n 0), (41, .getfield 19), (44, .getfield 160), (47, .iload 4), (49, .iconst 0), (50, .iload_n 1), (51, .invokevirtual 107), (54, .pop), (55, .aload_n 0), (56, .getfield 19), (59, .getfield 160), (62, .iload 4), (64, .iconst 1), (65, .iload_n 2), (66, .invokevirtual 107), (69, .pop), (70, .aload_n 0), (71, .getfield 19), (74, .getfield 160), (77, .iload 4), (79, .iconst 2), (80, .iload_n 3), (81, .invokevirtual 107), (84, .pop), (85, .aload_n 0), (86, .getfield 19), (89, .getfield 160), (92, .invokevirtual 156), (95, .ireturn)]
theorem qX8_meant : gDec mX8_meant.2.1 iX8_meant := by unfold gDec; decide +kernel
abbrev mX8_stood : gM := (yX8_stood, cX8_stood, 5, (some .int))
def iX8_stood : List (Nat × Instr) := [(0, .iload_n 1), (1, .ifCond .lt 8), (4, .iload_n 1), (5, .iconst 2), (6, .if_icmp .le 5), (9, .iconst (-1)), (10, .ireturn), (11, .iconst 0), (12, .istore_n 2), (13, .iconst 0), (14, .istore_n 3), (15, .iload_n 3), (16, .bipush 21), (18, .if_icmp .ge 57), (21, .iconst 0), (22, .istore 4), (24, .iload 4), (26, .bipush 21), (28, .if_icmp .ge 41), (31, .aload_n 0), (32, .iload 4), (34, .iload_n 3), (35, .invokevirtual 215), (38, .ifCond .ne 6), (41, .goto 22), (44, .iload_n 1), (45, .ifCond .le 15), (48, .iload_n 1), (49, .iconst 1), (50, .if_icmp .ne 8), (53, .iload 4), (55, .goto 4), (58, .iload_n 3), (59, .ireturn), (60, .iinc 2 1), (63, .iinc 4 1), (66, .goto (-42)), (69, .iinc 3 1), (72, .goto (-57)), (75, .iload_n 1), (76, .ifCond .ne 7), (79, .iload_n 2), (80, .goto 5), (83, .bipush (-4)), (85, .ireturn)]
theorem qX8_stood : gDec mX8_stood.2.1 iX8_stood := by unfold gDec; decide +kernel
abbrev mX8_stall : gM := (yX8_stall, cX8_stall, 3, (some .int))
def iX8_stall : List (Nat × Instr) := [(0, .aload_n 0), (1, .getfield 19), (4, .getfield 157), (7, .iload_n 1), (8, .iload_n 2), (9, .invokestatic 102), (12, .ireturn)]
theorem qX8_stall : gDec mX8_stall.2.1 iX8_stall := by unfold gDec; decide +kernel
abbrev mX8_market : gM := (yX8_market, cX8_market, 6, (some .int))
def iX8_market : List (Nat × Instr) := [(0, .iload_n 1), (1, .iconst 1), (2, .if_icmp .lt 28), (5, .iload_n 1), (6, .iconst 4), (7, .if_icmp .gt 23), (10, .iload_n 2), (11, .iload_n 3), (12, .invokestatic 70), (15, .ifCond .eq 15), (18, .iload 4), (20, .iconst (-1)), (21, .if_icmp .lt 9), (24, .iload 4), (26, .iload_n 1), (27, .if_icmp .lt 5), (30, .iconst (-1)), (31, .ireturn), (32, .aload_n 0), (33, .getfield 19), (36, .getfield 77), (39, .invokevirtual 143), (42, .iload_n 1), (43, .if_icmp .lt 17), (46, .aload_n 0), (47, .getfield 19), (50, .getfield 157), (53, .invokevirtual 156), (56, .iload_n 1), (57, .if_icmp .ge 6), (60, .bipush (-2)), (62, .ireturn), (63, .aload_n 0), (64, .getfield 59), (67, .aload_n 0), (68, .getfield 19), (71, .aload_n 0), (72, .getfield 10), (75, .iload_n 1), (76, .iload_n 2), (77, .iload_n 3), (78, .invokevirtual 218), (81, .istore 5), (83, .iload 5), (85, .ifCond .ge 6), (88, .bipush (-4)), (90, .ireturn), (91, .iload 4), (93, .ifCond .ge 8), (96, .iload 5), (98, .goto 12), (101, .aload_n 0), (102, .getfield 59), (105, .iload 4), (107, .invokevirtual 222), (110, .ireturn)]
theorem qX8_market : gDec mX8_market.2.1 iX8_market := by unfold gDec; decide +kernel
abbrev mX8_clear : gM := (yX8_clear, cX8_clear, 2, (some .int))
def iX8_clear : List (Nat × Instr) := [(0, .aload_n 0), (1, .getfield 19), (4, .getfield 157), (7, .invokevirtual 156), (10, .aload_n 0), (11, .getfield 19), (14, .getfield 160), (17, .invokevirtual 156), (20, .iadd), (21, .aload_n 0), (22, .getfield 19), (25, .invokevirtual 153), (28, .iadd), (29, .istore_n 1), (30, .aload_n 0), (31, .getfield 19), (34, .getfield 157), (37, .invokevirtual 144), (40, .aload_n 0), (41, .getfield 19), (44, .getfield 160), (47, .invokevirtual 144), (50, .aload_n 0), (51, .getfield 19), (54, .getfield 149), (57, .invokevirtual 144), (60, .iload_n 1), (61, .ireturn)]
theorem qX8_clear : gDec mX8_clear.2.1 iX8_clear := by unfold gDec; decide +kernel
abbrev mX8_image : gM := (yX8_image, cX8_image, 1, (some .int))
def iX8_image : List (Nat × Instr) := [(0, .aload_n 0), (1, .getfield 23), (4, .aload_n 0), (5, .getfield 19), (8, .invokevirtual 225), (11, .aload_n 0), (12, .iconst 1), (13, .putfield 229), (16, .iconst 1), (17, .ireturn)]
theorem qX8_image : gDec mX8_image.2.1 iX8_image := by unfold gDec; decide +kernel
abbrev mX8_restore : gM := (yX8_restore, cX8_restore, 1, (some .int))
def iX8_restore : List (Nat × Instr) := [(0, .aload_n 0), (1, .getfield 229), (4, .ifCond .ne 6), (7, .bipush (-4)), (9, .ireturn), (10, .aload_n 0), (11, .getfield 19), (14, .aload_n 0), (15, .getfield 23), (18, .invokevirtual 225), (21, .iconst 1), (22, .ireturn)]
theorem qX8_restore : gDec mX8_restore.2.1 iX8_restore := by unfold gDec; decide +kernel
abbrev mX8_clears : gM := (yX8_clears, cX8_clears, 14, (some .int))
def iX8_clears : List (Nat × Instr) := [(0, .aload_n 0), (1, .iload_n 2), (2, .invokevirtual 233), (5, .astore 6), (7, .aload_n 0), (8, .getfield 19), (11, .getfield 99), (14, .iload_n 1), (15, .invokevirtual 106), (18, .ifCond .eq 28), (21, .aload 6), (23, .ifnull 23), (26, .iload_n 3), (27, .invokestatic 237), (30, .ifCond .eq 16), (33, .iload 5), (35, .iconst 1), (36, .if_icmp .lt 10), (39, .iload 5), (41, .bipush 12), (43, .if_icmp .le 5), (46, .iconst (-1)), (47, .ireturn), (48, .aload 6), (50, .iload_n 3), (51, .iload 4), (53, .iconst 2), (54, .iload 5), (56, .imul), (57, .invokevirtual 240), (60, .istore 7), (62, .iload 7), (64, .ifCond .ge 6), (67, .iload 7), (69, .ireturn), (70, .iconst 0), (71, .istore 8), (73, .iconst 0), (74, .istore 9), (76, .iload 9), (78, .iload 5), (80, .if_icmp .ge 80), (83, .aload 6), (85, .iload 4), (87, .iconst 2), (88, .iload 9), (90, .imul), (91, .iadd), (92, .invokevirtual 243), (95, .lstore 10), (97, .aload 6), (99, .iload 4), (101, .iconst 2), (102, .iload 9), (104, .imul), (105, .iadd), (106, .iconst 1), (107, .iadd), (108, .invokevirtual 243), (111, .lstore 12), (113, .lload 10), (115, .lload 12), (117, .invokestatic 163), (120, .ifCond .ne 6), (123, .bipush (-2)), (125, .ireturn), (126, .iload 8), (128, .aload_n 0), (129, .iload_n 1), (130, .lload 10), (132, .l2i), (133, .lload 12), (135, .l2i), (136, .iconst 0), (137, .invokevirtual 171), (140, .invokestatic 183), (143, .ifCond .eq 7), (146, .iconst 1), (147, .goto 4), (150, .iconst 0), (151, .iadd), (152, .istore 8), (154, .iinc 9 1), (157, .goto (-81)), (160, .iload 8), (162, .ireturn)]
theorem qX8_clears : gDec mX8_clears.2.1 iX8_clears := by unfold gDec; decide +kernel
abbrev mX8_sheet : gM := (yX8_sheet, cX8_sheet, 5, (some .int))
def iX8_sheet : List (Nat × Instr) := [(0, .aload_n 0), (1, .iload_n 1), (2, .invokevirtual 233), (5, .astore 4), (7, .aload 4), (9, .ifnull 16), (12, .iload_n 2), (13, .invokestatic 237), (16, .ifCond .eq 9), (19, .iload_n 3), (20, .bipush 24), (22, .if_icmp .le 5), (25, .iconst (-1)), (26, .ireturn), (27, .iload_n 3), (28, .ifCond .ge 6), (31, .bipush (-14)), (33, .ireturn), (34, .aload 4), (36, .iload_n 2), (37, .iload_n 3), (38, .invokevirtual 247), (41, .iload_n 3), (42, .ireturn)]
theorem qX8_sheet : gDec mX8_sheet.2.1 iX8_sheet := by unfold gDec; decide +kernel
abbrev mX8_drop : gM := (yX8_drop, cX8_drop, 4, (some .int))
def iX8_drop : List (Nat × Instr) := [(0, .aload_n 0), (1, .iload_n 1), (2, .invokevirtual 233), (5, .astore_n 2), (6, .aload_n 2), (7, .ifnonnull 5), (10, .iconst (-1)), (11, .ireturn), (12, .aload_n 2), (13, .invokevirtual 250), (16, .ifCond .eq 6), (19, .bipush (-11)), (21, .ireturn), (22, .aload_n 2), (23, .invokevirtual 254), (26, .istore_n 3), (27, .aload_n 2), (28, .invokevirtual 255), (31, .iload_n 3), (32, .ireturn)]
theorem qX8_drop : gDec mX8_drop.2.1 iX8_drop := by unfold gDec; decide +kernel
abbrev mX8_item : gM := (yX8_item, cX8_item, 8, (some .int))
def iX8_item : List (Nat × Instr) := [(0, .aload_n 0), (1, .iload_n 1), (2, .invokevirtual 233), (5, .astore 6), (7, .aload 6), (9, .ifnull 10), (12, .iload_n 2), (13, .invokestatic 237), (16, .ifCond .ne 5), (19, .iconst (-1)), (20, .ireturn), (21, .aload 6), (23, .iload_n 2), (24, .iload_n 3), (25, .iconst 1), (26, .invokevirtual 240), (29, .istore 7), (31, .iload 7), (33, .ifCond .ge 6), (36, .iload 7), (38, .ireturn), (39, .aload 6), (41, .iload_n 3), (42, .lload 4), (44, .invokevirtual 258), (47, .iconst 1), (48, .ireturn)]
theorem qX8_item : gDec mX8_item.2.1 iX8_item := by unfold gDec; decide +kernel
abbrev mX8_copy : gM := (yX8_copy, cX8_copy, 9, (some .int))
def iX8_copy : List (Nat × Instr) := [(0, .aload_n 0), (1, .iload_n 1), (2, .invokevirtual 233), (5, .astore 6), (7, .aload_n 0), (8, .iload_n 3), (9, .invokevirtual 233), (12, .astore 7), (14, .aload 6), (16, .ifnull 8), (19, .aload 7), (21, .ifnonnull 5), (24, .iconst (-1)), (25, .ireturn), (26, .aload 6), (28, .invokevirtual 250), (31, .ifCond .ne 11), (34, .aload 7), (36, .invokevirtual 250), (39, .ifCond .eq 6), (42, .bipush (-11)), (44, .ireturn), (45, .aload 7), (47, .aload 6), (49, .invokevirtual 261), (52, .iload 4), (54, .iload 5), (56, .invokevirtual 240), (59, .istore 8), (61, .iload 8), (63, .ifCond .ge 6), (66, .iload 8), (68, .ireturn), (69, .aload 6), (71, .aload 6), (73, .invokevirtual 261), (76, .iload_n 2), (77, .iload 5), (79, .invokevirtual 240), (82, .istore 8), (84, .iload 8), (86, .ifCond .ge 6), (89, .iload 8), (91, .ireturn), (92, .aload 7), (94, .aload 6), (96, .iload_n 2), (97, .iload 4), (99, .iload 5), (101, .invokevirtual 264), (104, .iload 5), (106, .ireturn)]
theorem qX8_copy : gDec mX8_copy.2.1 iX8_copy := by unfold gDec; decide +kernel
abbrev mX8_isPoint : gM := (yX8_isPoint, cX8_isPoint, 2, (some .boolean))
def iX8_isPoint : List (Nat × Instr) := [(0, .iload_n 0), (1, .ifCond .lt 23), (4, .iload_n 0), (5, .bipush 21), (7, .if_icmp .ge 17), (10, .iload_n 1), (11, .ifCond .lt 13), (14, .iload_n 1), (15, .bipush 21), (17, .if_icmp .ge 7), (20, .iconst 1), (21, .goto 4), (24, .iconst 0), (25, .ireturn)]
theorem qX8_isPoint : gDec mX8_isPoint.2.1 iX8_isPoint := by unfold gDec; decide +kernel
abbrev mX8_isArm : gM := (yX8_isArm, cX8_isArm, 5, (some .boolean))
def iX8_isArm : List (Nat × Instr) := [(0, .lload_n 0), (1, .ldc2_w 268), (4, .lcmp), (5, .ifCond .lt 31), (8, .lload_n 0), (9, .ldc2_w 270), (12, .lcmp), (13, .ifCond .gt 23), (16, .lload_n 2), (17, .ldc2_w 268), (20, .lcmp), (21, .ifCond .lt 15), (24, .lload_n 2), (25, .ldc2_w 270), (28, .lcmp), (29, .ifCond .gt 7), (32, .iconst 1), (33, .goto 4), (36, .iconst 0), (37, .istore 4), (39, .iload 4), (41, .ifCond .eq 19), (44, .lload_n 0), (45, .lconst 0), (46, .lcmp), (47, .ifCond .ne 9), (50, .lload_n 2), (51, .lconst 0), (52, .lcmp), (53, .ifCond .eq 7), (56, .iconst 1), (57, .goto 4), (60, .iconst 0), (61, .ireturn)]
theorem qX8_isArm : gDec mX8_isArm.2.1 iX8_isArm := by unfold gDec; decide +kernel
abbrev mX8_isTick : gM := (yX8_isTick, cX8_isTick, 1, (some .boolean))
def iX8_isTick : List (Nat × Instr) := [(0, .iload_n 0), (1, .ifCond .lt 13), (4, .iload_n 0), (5, .bipush 60), (7, .if_icmp .gt 7), (10, .iconst 1), (11, .goto 4), (14, .iconst 0), (15, .ireturn)]
theorem qX8_isTick : gDec mX8_isTick.2.1 iX8_isTick := by unfold gDec; decide +kernel
abbrev mX8_isLane : gM := (yX8_isLane, cX8_isLane, 1, (some .boolean))
def iX8_isLane : List (Nat × Instr) := [(0, .iload_n 0), (1, .ifCond .lt 12), (4, .iload_n 0), (5, .iconst 3), (6, .if_icmp .ge 7), (9, .iconst 1), (10, .goto 4), (13, .iconst 0), (14, .ireturn)]
theorem qX8_isLane : gDec mX8_isLane.2.1 iX8_isLane := by unfold gDec; decide +kernel
abbrev mX8_isOne : gM := (yX8_isOne, cX8_isOne, 1, (some .boolean))
def iX8_isOne : List (Nat × Instr) := [(0, .iload_n 0), (1, .invokestatic 272), (4, .iconst 1), (5, .if_icmp .ne 7), (8, .iconst 1), (9, .goto 4), (12, .iconst 0), (13, .ireturn)]
theorem qX8_isOne : gDec mX8_isOne.2.1 iX8_isOne := by unfold gDec; decide +kernel
abbrev mX8_isSet : gM := (yX8_isSet, cX8_isSet, 2, (some .boolean))
def iX8_isSet : List (Nat × Instr) := [(0, .iload_n 1), (1, .ifCond .lt 23), (4, .iload_n 1), (5, .iconst 1), (6, .aload_n 0), (7, .getfield 19), (10, .getfield 77), (13, .invokevirtual 143), (16, .ishl), (17, .if_icmp .ge 7), (20, .iconst 1), (21, .goto 4), (24, .iconst 0), (25, .ireturn)]
theorem qX8_isSet : gDec mX8_isSet.2.1 iX8_isSet := by unfold gDec; decide +kernel
abbrev mX8_areTwo : gM := (yX8_areTwo, cX8_areTwo, 3, (some .boolean))
def iX8_areTwo : List (Nat × Instr) := [(0, .aload_n 0), (1, .getfield 19), (4, .getfield 99), (7, .iload_n 1), (8, .invokevirtual 106), (11, .ifCond .eq 26), (14, .aload_n 0), (15, .getfield 19), (18, .getfield 99), (21, .iload_n 2), (22, .invokevirtual 106), (25, .ifCond .eq 12), (28, .iload_n 1), (29, .iload_n 2), (30, .if_icmp .eq 7), (33, .iconst 1), (34, .goto 4), (37, .iconst 0), (38, .ireturn)]
theorem qX8_areTwo : gDec mX8_areTwo.2.1 iX8_areTwo := by unfold gDec; decide +kernel
abbrev mX8_sheetOf : gM := (yX8_sheetOf, cX8_sheetOf, 2, (some (.object "PointingArms$Sheet")))
def iX8_sheetOf : List (Nat × Instr) := [(0, .iload_n 1), (1, .ifCond .lt 21), (4, .iload_n 1), (5, .aload_n 0), (6, .getfield 65), (9, .arraylength), (10, .if_icmp .ge 12), (13, .aload_n 0), (14, .getfield 65), (17, .iload_n 1), (18, .aaload), (19, .goto 4), (22, .aconst_null), (23, .areturn)]
theorem qX8_sheetOf : gDec mX8_sheetOf.2.1 iX8_sheetOf := by unfold gDec; decide +kernel
abbrev mX8_fits : gM := (yX8_fits, cX8_fits, 2, (some .boolean))
def iX8_fits : List (Nat × Instr) := [(0, .iload_n 0), (36, .iload_n 1), (37, .ifCond .lt 13), (40, .iload_n 1), (41, .bipush 21), (43, .if_icmp .ge 7), (46, .iconst 1), (47, .goto 4), (50, .iconst 0), (51, .ireturn), (52, .iload_n 1), (53, .ifCond .lt 12), (56, .iload_n 1), (57, .iconst 5), (58, .if_icmp .gt 7), (61, .iconst 1), (62, .goto 4), (65, .iconst 0), (66, .ireturn), (67, .iload_n 1), (68, .bipush (-3)), (70, .if_icmp .lt 12), (73, .iload_n 1), (74, .iconst 3), (75, .if_icmp .gt 7), (78, .iconst 1), (79, .goto 4), (82, .iconst 0), (83, .ireturn), (84, .iconst 0), (85, .ireturn)]
theorem tX8_fits_1 : decode mX8_fits.2.1 1 = .ok (.tableswitch 83 0 4 #[35, 35, 51, 66, 66], 35) := by decide +kernel
theorem qX8_fits : gDec mX8_fits.2.1 iX8_fits := by unfold gDec; decide +kernel
abbrev mX8_addThing : gM := (yX8_addThing, cX8_addThing, 5, (some .int))
def iX8_addThing : List (Nat × Instr) := [(0, .aload_n 0), (1, .invokevirtual 275), (4, .istore 4), (6, .iload 4), (8, .ifCond .ge 6), (11, .bipush (-3)), (13, .ireturn), (14, .aload_n 0), (15, .iload 4), (17, .iconst 0), (18, .iload_n 1), (19, .invokevirtual 89), (22, .pop), (23, .aload_n 0), (24, .iload 4), (26, .iconst 1), (27, .iload_n 2), (28, .invokevirtual 89), (31, .pop), (32, .aload_n 0), (33, .iload 4), (35, .iconst 2), (36, .iload_n 3), (37, .invokevirtual 89), (40, .pop), (41, .iload 4), (43, .ireturn)]
theorem qX8_addThing : gDec mX8_addThing.2.1 iX8_addThing := by unfold gDec; decide +kernel
abbrev mX8_addPoint : gM := (yX8_addPoint, cX8_addPoint, 4, (some .int))
def iX8_addPoint : List (Nat × Instr) := [(0, .iload_n 1), (1, .iload_n 2), (2, .invokestatic 70), (5, .ifCond .ne 5), (8, .iconst (-1)), (9, .ireturn), (10, .aload_n 0), (11, .invokevirtual 212), (14, .istore_n 3), (15, .iload_n 3), (16, .ifCond .ge 6), (19, .bipush (-3)), (21, .ireturn), (22, .aload_n 0), (23, .iload_n 3), (24, .iconst 0), (25, .iload_n 1), (26, .invokevirtual 107), (29, .pop), (30, .aload_n 0), (31, .iload_n 3), (32, .iconst 1), (33, .iload_n 2), (34, .invokevirtual 107), (37, .pop), (38, .iload_n 3), (39, .ireturn)]
theorem qX8_addPoint : gDec mX8_addPoint.2.1 iX8_addPoint := by unfold gDec; decide +kernel
abbrev mX8_metBy : gM := (yX8_metBy, cX8_metBy, 5, (some .int))
def iX8_metBy : List (Nat × Instr) := [(0, .aload_n 0), (1, .getfield 19), (4, .getfield 77), (7, .aload_n 0), (8, .getfield 19), (11, .getfield 99), (14, .iload_n 1), (15, .iconst 0), (16, .invokevirtual 276), (19, .aload_n 0), (20, .getfield 19), (23, .getfield 99), (26, .iload_n 1), (27, .iconst 1), (28, .invokevirtual 276), (31, .iload_n 2), (32, .iload_n 3), (33, .iload 4), (35, .invokevirtual 167), (38, .ireturn)]
theorem qX8_metBy : gDec mX8_metBy.2.1 iX8_metBy := by unfold gDec; decide +kernel
abbrev mX8_meaningOf : gM := (yX8_meaningOf, cX8_meaningOf, 5, (some .int))
def iX8_meaningOf : List (Nat × Instr) := [(0, .aload_n 0), (1, .getfield 19), (4, .getfield 77), (7, .aload_n 0), (8, .iload_n 1), (9, .iload_n 2), (10, .iload_n 3), (11, .iload 4), (13, .invokevirtual 175), (16, .iload_n 2), (17, .iload_n 3), (18, .iload 4), (20, .invokevirtual 177), (23, .ireturn)]
theorem qX8_meaningOf : gDec mX8_meaningOf.2.1 iX8_meaningOf := by unfold gDec; decide +kernel
abbrev mX8_meaningOfSentence : gM := (yX8_meaningOfSentence, cX8_meaningOfSentence, 7, (some .int))
def iX8_meaningOfSentence : List (Nat × Instr) := [(0, .iconst (-1)), (1, .istore_n 3), (2, .iconst 0), (3, .istore 4), (5, .iconst 0), (6, .istore 5), (8, .iload 5), (10, .aload_n 0), (11, .getfield 19), (14, .getfield 149), (17, .invokevirtual 156), (20, .if_icmp .ge 102), (23, .aload_n 0), (24, .getfield 19), (27, .getfield 149), (30, .iload 5), (32, .iconst 0), (33, .invokevirtual 276), (36, .iload_n 1), (37, .if_icmp .eq 6), (40, .goto 76), (43, .aload_n 0), (44, .aload_n 0), (45, .getfield 19), (48, .getfield 149), (51, .iload 5), (53, .iconst 1), (54, .invokevirtual 276), (57, .aload_n 0), (58, .getfield 19), (61, .getfield 149), (64, .iload 5), (66, .iconst 2), (67, .invokevirtual 276), (70, .aload_n 0), (71, .getfield 19), (74, .getfield 149), (77, .iload 5), (79, .iconst 3), (80, .invokevirtual 276), (83, .iload_n 2), (84, .invokevirtual 175), (87, .istore 6), (89, .iload_n 3), (90, .ifCond .ge 8), (93, .iload 6), (95, .goto 8), (98, .iload 4), (100, .iload 6), (102, .iand), (103, .istore 4), (105, .iload_n 3), (106, .ifCond .ge 8), (109, .iload 5), (111, .goto 4), (114, .iload_n 3), (115, .istore_n 3), (116, .iinc 5 1), (119, .goto (-111)), (122, .aload_n 0), (123, .getfield 19), (126, .getfield 77), (129, .iload 4), (131, .aload_n 0), (132, .getfield 19), (135, .getfield 149), (138, .iload_n 3), (139, .iconst 2), (140, .invokevirtual 276), (143, .aload_n 0), (144, .getfield 19), (147, .getfield 149), (150, .iload_n 3), (151, .iconst 3), (152, .invokevirtual 276), (155, .iload_n 2), (156, .invokevirtual 177), (159, .ireturn)]
theorem qX8_meaningOfSentence : gDec mX8_meaningOfSentence.2.1 iX8_meaningOfSentence := by unfold gDec; decide +kernel
abbrev mX8_asideAt : gM := (yX8_asideAt, cX8_asideAt, 9, (some .int))
def iX8_asideAt : List (Nat × Instr) := [(0, .iconst 0), (1, .istore 6), (3, .iload 6), (5, .bipush 21), (7, .if_icmp .ge 94), (10, .iconst 0), (11, .istore 7), (13, .iload 7), (15, .bipush 21), (17, .if_icmp .ge 78), (20, .iload 7), (22, .iload_n 3), (23, .isub), (24, .invokestatic 278), (27, .iload 6), (29, .iload 4), (31, .isub), (32, .invokestatic 278), (35, .iadd), (36, .iload_n 1), (37, .if_icmp .eq 6), (40, .goto 49), (43, .aload_n 0), (44, .getfield 52), (47, .aload_n 0), (48, .getfield 19), (51, .getfield 77), (54, .aload_n 0), (55, .getfield 10), (58, .iload_n 2), (59, .iload 7), (61, .iload 6), (63, .invokevirtual 205), (66, .istore 8), (68, .iload 8), (70, .ifCond .lt 19), (73, .iload 8), (75, .iload 5), (77, .if_icmp .gt 12), (80, .bipush 100), (82, .iload 7), (84, .imul), (85, .iload 6), (87, .iadd), (88, .ireturn), (89, .iinc 7 1), (92, .goto (-79)), (95, .iinc 6 1), (98, .goto (-95)), (101, .bipush (-4)), (103, .ireturn)]
theorem qX8_asideAt : gDec mX8_asideAt.2.1 iX8_asideAt := by unfold gDec; decide +kernel
abbrev mX8_couldStand : gM := (yX8_couldStand, cX8_couldStand, 6, (some .boolean))
def iX8_couldStand : List (Nat × Instr) := [(0, .iconst 0), (1, .istore_n 3), (2, .iload_n 3), (3, .aload_n 0), (4, .getfield 19), (7, .getfield 160), (10, .invokevirtual 156), (13, .if_icmp .ge 86), (16, .aload_n 0), (17, .getfield 19), (20, .getfield 160), (23, .iload_n 3), (24, .iconst 0), (25, .invokevirtual 276), (28, .istore 4), (30, .aload_n 0), (31, .getfield 19), (34, .getfield 160), (37, .iload_n 3), (38, .iconst 1), (39, .invokevirtual 276), (42, .istore 5), (44, .aload_n 0), (45, .getfield 19), (48, .getfield 77), (51, .aload_n 0), (52, .getfield 19), (55, .getfield 77), (58, .iload_n 1), (59, .iload_n 2), (60, .iload 4), (62, .iload 5), (64, .iconst 0), (65, .invokevirtual 167), (68, .iload 4), (70, .iload 5), (72, .iconst 0), (73, .invokevirtual 177), (76, .aload_n 0), (77, .getfield 19), (80, .getfield 160), (83, .iload_n 3), (84, .iconst 2), (85, .invokevirtual 276), (88, .if_icmp .eq 5), (91, .iconst 0), (92, .ireturn), (93, .iinc 3 1), (96, .goto (-94)), (99, .iconst 1), (100, .ireturn)]
theorem qX8_couldStand : gDec mX8_couldStand.2.1 iX8_couldStand := by unfold gDec; decide +kernel
abbrev mX8_readThing : gM := (yX8_readThing, cX8_readThing, 4, none)
def iX8_readThing : List (Nat × Instr) := [(0, .aload_n 0), (1, .getfield 29), (4, .bipush 20), (6, .invokevirtual 283), (9, .istore_n 1), (10, .aload_n 0), (11, .getfield 29), (14, .bipush 44), (16, .invokevirtual 286), (19, .aload_n 0), (20, .getfield 29), (23, .bipush 20), (25, .invokevirtual 283), (28, .istore_n 2), (29, .aload_n 0), (30, .getfield 29), (33, .bipush 44), (35, .invokevirtual 286), (38, .aload_n 0), (39, .getfield 29), (42, .iconst 5), (43, .invokevirtual 290), (46, .istore_n 3), (47, .aload_n 0), (48, .getfield 36), (51, .iload_n 1), (52, .iload_n 2), (53, .iload_n 3), (54, .invokestatic 80), (57, .pop), (58, .return_)]
theorem qX8_readThing : gDec mX8_readThing.2.1 iX8_readThing := by unfold gDec; decide +kernel
abbrev mX8_readSentence : gM := (yX8_readSentence, cX8_readSentence, 3, none)
def iX8_readSentence : List (Nat × Instr) := [(0, .iconst 1), (1, .istore_n 2), (2, .iload_n 2), (3, .iconst 3), (4, .if_icmp .gt 34), (7, .aload_n 0), (8, .iload_n 1), (9, .invokevirtual 293), (12, .iload_n 2), (13, .iconst 3), (14, .if_icmp .eq 24), (17, .aload_n 0), (18, .getfield 29), (21, .bipush 44), (23, .invokevirtual 132), (26, .ifCond .ne 6), (29, .goto 9), (32, .iinc 2 1), (35, .goto (-33)), (38, .return_)]
theorem qX8_readSentence : gDec mX8_readSentence.2.1 iX8_readSentence := by unfold gDec; decide +kernel
abbrev mX8_readArm : gM := (yX8_readArm, cX8_readArm, 7, none)
def iX8_readArm : List (Nat × Instr) := [(0, .aload_n 0), (1, .getfield 29), (4, .aload_n 0), (5, .getfield 19), (8, .getfield 99), (11, .invokevirtual 156), (14, .iconst 1), (15, .isub), (16, .invokevirtual 290), (19, .istore_n 2), (20, .aload_n 0), (21, .getfield 29), (24, .invokevirtual 296), (27, .istore_n 3), (28, .aload_n 0), (29, .getfield 29), (32, .invokevirtual 299), (35, .istore 4), (37, .aload_n 0), (38, .getfield 29), (41, .invokevirtual 296), (44, .istore 5), (46, .iload_n 3), (47, .ifCond .ne 17), (50, .iload 5), (52, .ifCond .ne 12), (55, .aload_n 0), (56, .getfield 29), (59, .iload 4), (61, .invokevirtual 302), (64, .aload_n 0), (65, .getfield 45), (68, .invokevirtual 212), (71, .istore 6), (73, .aload_n 0), (74, .getfield 45), (77, .iload 6), (79, .iconst 0), (80, .iload_n 1), (81, .invokevirtual 107), (84, .pop), (85, .aload_n 0), (86, .getfield 45), (89, .iload 6), (91, .iconst 1), (92, .iload_n 2), (93, .invokevirtual 107), (96, .pop), (97, .aload_n 0), (98, .getfield 45), (101, .iload 6), (103, .iconst 2), (104, .iload_n 3), (105, .invokevirtual 107), (108, .pop), (109, .aload_n 0), (110, .getfield 45), (113, .iload 6), (115, .iconst 3), (116, .iload 5), (118, .invokevirtual 107), (121, .pop), (122, .return_)]
theorem qX8_readArm : gDec mX8_readArm.2.1 iX8_readArm := by unfold gDec; decide +kernel
abbrev mX9_in : gM := (yX9_in, cX9_in, 6, (some .boolean))
def iX9_in : List (Nat × Instr) := [(0, .lload_n 0), (1, .lload_n 2), (2, .lcmp), (3, .ifCond .lt 14), (6, .lload_n 0), (7, .lload 4), (9, .lcmp), (10, .ifCond .gt 7), (13, .iconst 1), (14, .goto 4), (17, .iconst 0), (18, .ireturn)]
theorem qX9_in : gDec mX9_in.2.1 iX9_in := by unfold gDec; decide +kernel
abbrev mX9_isFan : gM := (yX9_isFan, cX9_isFan, 5, (some .boolean))
def iX9_isFan : List (Nat × Instr) := [(0, .iload_n 0), (1, .ifCond .ge 8), (4, .iload_n 0), (5, .ineg), (6, .goto 4), (9, .iload_n 0), (10, .istore_n 2), (11, .iload_n 1), (12, .ifCond .ge 8), (15, .iload_n 1), (16, .ineg), (17, .goto 4), (20, .iload_n 1), (21, .istore_n 3), (22, .iload_n 3), (23, .ifCond .le 16), (26, .iload_n 2), (27, .iload_n 3), (28, .irem), (29, .istore 4), (31, .iload_n 3), (32, .istore_n 2), (33, .iload 4), (35, .istore_n 3), (36, .goto (-14)), (39, .iload_n 2), (40, .iconst 1), (41, .if_icmp .ne 7), (44, .iconst 1), (45, .goto 4), (48, .iconst 0), (49, .ireturn)]
theorem qX9_isFan : gDec mX9_isFan.2.1 iX9_isFan := by unfold gDec; decide +kernel
abbrev mX9_isPoint : gM := (yX9_isPoint, cX9_isPoint, 2, (some .boolean))
def iX9_isPoint : List (Nat × Instr) := [(0, .iload_n 0), (1, .i2l), (2, .lconst 0), (3, .ldc2_w 82), (6, .invokestatic 84), (9, .ifCond .eq 19), (12, .iload_n 1), (13, .i2l), (14, .lconst 0), (15, .ldc2_w 82), (18, .invokestatic 84), (21, .ifCond .eq 7), (24, .iconst 1), (25, .goto 4), (28, .iconst 0), (29, .ireturn)]
theorem qX9_isPoint : gDec mX9_isPoint.2.1 iX9_isPoint := by unfold gDec; decide +kernel
abbrev mX9_isThing : gM := (yX9_isThing, cX9_isThing, 2, (some .boolean))
def iX9_isThing : List (Nat × Instr) := [(0, .iload_n 1), (1, .i2l), (2, .lconst 0), (3, .aload_n 0), (4, .getfield 88), (7, .iconst 1), (8, .isub), (9, .i2l), (10, .invokestatic 84), (13, .ireturn)]
theorem qX9_isThing : gDec mX9_isThing.2.1 iX9_isThing := by unfold gDec; decide +kernel
abbrev mX9_isOne : gM := (yX9_isOne, cX9_isOne, 2, (some .boolean))
def iX9_isOne : List (Nat × Instr) := [(0, .iload_n 1), (1, .i2l), (2, .lconst 0), (3, .aload_n 0), (4, .getfield 91), (7, .iconst 1), (8, .isub), (9, .i2l), (10, .invokestatic 84), (13, .ireturn)]
theorem qX9_isOne : gDec mX9_isOne.2.1 iX9_isOne := by unfold gDec; decide +kernel
abbrev mX9_isArm : gM := (yX9_isArm, cX9_isArm, 4, (some .boolean))
def iX9_isArm : List (Nat × Instr) := [(0, .lload_n 0), (1, .ldc2_w 94), (4, .ldc2_w 96), (7, .invokestatic 84), (10, .ifCond .eq 32), (13, .lload_n 2), (14, .ldc2_w 94), (17, .ldc2_w 96), (20, .invokestatic 84), (23, .ifCond .eq 19), (26, .lload_n 0), (27, .lconst 0), (28, .lcmp), (29, .ifCond .ne 9), (32, .lload_n 2), (33, .lconst 0), (34, .lcmp), (35, .ifCond .eq 7), (38, .iconst 1), (39, .goto 4), (42, .iconst 0), (43, .ireturn)]
theorem qX9_isArm : gDec mX9_isArm.2.1 iX9_isArm := by unfold gDec; decide +kernel
abbrev mX9_isTick : gM := (yX9_isTick, cX9_isTick, 1, (some .boolean))
def iX9_isTick : List (Nat × Instr) := [(0, .iload_n 0), (1, .i2l), (2, .lconst 0), (3, .ldc2_w 98), (6, .invokestatic 84), (9, .ireturn)]
theorem qX9_isTick : gDec mX9_isTick.2.1 iX9_isTick := by unfold gDec; decide +kernel
abbrev mX9_comes : gM := (yX9_comes, cX9_comes, 5, none)
def iX9_comes : List (Nat × Instr) := [(0, .aload_n 0), (1, .getfield 13), (4, .iconst 5), (5, .iload_n 1), (6, .imul), (7, .iload_n 2), (8, .iastore), (9, .aload_n 0), (10, .getfield 13), (13, .iconst 5), (14, .iload_n 1), (15, .imul), (16, .iconst 1), (17, .iadd), (18, .iload_n 3), (19, .iastore), (20, .aload_n 0), (21, .getfield 13), (24, .iconst 5), (25, .iload_n 1), (26, .imul), (27, .iconst 2), (28, .iadd), (29, .iload 4), (31, .iastore), (32, .aload_n 0), (33, .getfield 13), (36, .iconst 5), (37, .iload_n 1), (38, .imul), (39, .iconst 3), (40, .iadd), (41, .iconst 0), (42, .iastore), (43, .aload_n 0), (44, .getfield 13), (47, .iconst 5), (48, .iload_n 1), (49, .imul), (50, .iconst 4), (51, .iadd), (52, .iconst 0), (53, .iastore), (54, .return_)]
theorem qX9_comes : gDec mX9_comes.2.1 iX9_comes := by unfold gDec; decide +kernel
abbrev mX9_thing : gM := (yX9_thing, cX9_thing, 4, (some .int))
def iX9_thing : List (Nat × Instr) := [(0, .iload_n 1), (1, .iload_n 2), (2, .invokestatic 100), (5, .ifCond .eq 15), (8, .iload_n 3), (9, .i2l), (10, .lconst 0), (11, .ldc2_w 103), (14, .invokestatic 84), (17, .ifCond .ne 5), (20, .iconst (-1)), (21, .ireturn), (22, .aload_n 0), (23, .getfield 88), (26, .bipush 10), (28, .if_icmp .ne 6), (31, .bipush (-3)), (33, .ireturn), (34, .aload_n 0), (35, .aload_n 0), (36, .getfield 88), (39, .iload_n 1), (40, .iload_n 2), (41, .iload_n 3), (42, .invokevirtual 105), (45, .aload_n 0), (46, .dup), (47, .getfield 88), (50, .iconst 1), (51, .iadd), (52, .putfield 88), (55, .aload_n 0), (56, .getfield 88), (59, .iconst 1), (60, .isub), (61, .ireturn)]
theorem qX9_thing : gDec mX9_thing.2.1 iX9_thing := by unfold gDec; decide +kernel
abbrev mX9_make : gM := (yX9_make, cX9_make, 6, (some .int))
def iX9_make : List (Nat × Instr) := [(0, .iload_n 2), (1, .ifCond .eq 8), (4, .iload_n 2), (5, .iconst 1), (6, .if_icmp .ne 15), (9, .iload_n 3), (10, .i2l), (11, .lconst 0), (12, .ldc2_w 82), (15, .invokestatic 84), (18, .goto 53), (21, .iload_n 2), (22, .iconst 2), (23, .if_icmp .ne 15), (26, .iload_n 3), (27, .i2l), (28, .lconst 0), (29, .ldc2_w 103), (32, .invokestatic 84), (35, .goto 36), (38, .iload_n 2), (39, .i2l), (40, .ldc2_w 109), (43, .ldc2_w 111), (46, .invokestatic 84), (49, .ifCond .eq 21), (52, .iload_n 3), (53, .i2l), (54, .ldc2_w 113), (57, .ldc2_w 109), (60, .invokestatic 84), (63, .ifCond .eq 7), (66, .iconst 1), (67, .goto 4), (70, .iconst 0), (71, .istore 4), (73, .aload_n 0), (74, .iload_n 1), (75, .invokevirtual 115), (78, .ifCond .eq 8), (81, .iload 4), (83, .ifCond .ne 6), (86, .ldc 119), (88, .ireturn), (89, .aload_n 0), (90, .getfield 13), (93, .iconst 5), (94, .iload_n 1), (95, .imul), (96, .iload_n 2), (97, .iadd), (98, .iaload), (99, .istore 5), (101, .aload_n 0), (102, .getfield 13), (105, .iconst 5), (106, .iload_n 1), (107, .imul), (108, .iload_n 2), (109, .iadd), (110, .iload_n 3), (111, .iastore), (112, .iload 5), (114, .ireturn)]
theorem qX9_make : gDec mX9_make.2.1 iX9_make := by unfold gDec; decide +kernel
abbrev mX9_middle : gM := (yX9_middle, cX9_middle, 4, (some .int))
def iX9_middle : List (Nat × Instr) := [(0, .aload_n 0), (1, .getfield 13), (4, .iconst 5), (5, .iload_n 1), (6, .imul), (7, .iload_n 3), (8, .iadd), (9, .iaload), (10, .iload_n 2), (11, .aload_n 0), (12, .getfield 13), (15, .iconst 5), (16, .iload_n 1), (17, .imul), (18, .iconst 3), (19, .iadd), (20, .iload_n 3), (21, .iadd), (22, .iaload), (23, .imul), (24, .iadd), (25, .ireturn)]
theorem qX9_middle : gDec mX9_middle.2.1 iX9_middle := by unfold gDec; decide +kernel
abbrev mX9_at : gM := (yX9_at, cX9_at, 4, (some .int))
def iX9_at : List (Nat × Instr) := [(0, .aload_n 0), (1, .iload_n 1), (2, .invokevirtual 115), (5, .ifCond .eq 30), (8, .iload_n 2), (9, .invokestatic 120), (12, .ifCond .eq 23), (15, .iload_n 3), (16, .i2l), (17, .lconst 0), (18, .lconst 1), (19, .invokestatic 84), (22, .ifCond .eq 13), (25, .aload_n 0), (26, .iload_n 1), (27, .iload_n 2), (28, .iload_n 3), (29, .invokevirtual 123), (32, .goto 5), (35, .ldc 119), (37, .ireturn)]
theorem qX9_at : gDec mX9_at.2.1 iX9_at := by unfold gDec; decide +kernel
abbrev mX9_person : gM := (yX9_person, cX9_person, 3, (some .int))
def iX9_person : List (Nat × Instr) := [(0, .iload_n 1), (1, .iload_n 2), (2, .invokestatic 100), (5, .ifCond .ne 5), (8, .iconst (-1)), (9, .ireturn), (10, .aload_n 0), (11, .getfield 91), (14, .bipush 6), (16, .if_icmp .ne 6), (19, .bipush (-3)), (21, .ireturn), (22, .aload_n 0), (23, .getfield 16), (26, .aload_n 0), (27, .getfield 91), (30, .iload_n 1), (31, .iastore), (32, .aload_n 0), (33, .getfield 19), (36, .aload_n 0), (37, .getfield 91), (40, .iload_n 2), (41, .iastore), (42, .aload_n 0), (43, .dup), (44, .getfield 91), (47, .iconst 1), (48, .iadd), (49, .putfield 91), (52, .aload_n 0), (53, .getfield 91), (56, .iconst 1), (57, .isub), (58, .ireturn)]
theorem qX9_person : gDec mX9_person.2.1 iX9_person := by unfold gDec; decide +kernel
abbrev mX9_walk : gM := (yX9_walk, cX9_walk, 5, (some .int))
def iX9_walk : List (Nat × Instr) := [(0, .aload_n 0), (1, .iload_n 1), (2, .invokevirtual 127), (5, .ifCond .eq 11), (8, .iload_n 2), (9, .iload_n 3), (10, .invokestatic 100), (13, .ifCond .ne 5), (16, .iconst (-1)), (17, .ireturn), (18, .bipush 100), (20, .aload_n 0), (21, .getfield 16), (24, .iload_n 1), (25, .iaload), (26, .imul), (27, .aload_n 0), (28, .getfield 19), (31, .iload_n 1), (32, .iaload), (33, .iadd), (34, .istore 4), (36, .aload_n 0), (37, .getfield 16), (40, .iload_n 1), (41, .iload_n 2), (42, .iastore), (43, .aload_n 0), (44, .getfield 19), (47, .iload_n 1), (48, .iload_n 3), (49, .iastore), (50, .iload 4), (52, .ireturn)]
theorem qX9_walk : gDec mX9_walk.2.1 iX9_walk := by unfold gDec; decide +kernel
abbrev mX9_rule : gM := (yX9_rule, cX9_rule, 4, (some .int))
def iX9_rule : List (Nat × Instr) := [(0, .iload_n 1), (1, .i2l), (2, .lconst 0), (3, .lconst 1), (4, .invokestatic 84), (7, .ifCond .eq 13), (10, .iload_n 2), (11, .i2l), (12, .lconst 0), (13, .lconst 1), (14, .invokestatic 84), (17, .ifCond .ne 5), (20, .iconst (-1)), (21, .ireturn), (22, .aload_n 0), (23, .getfield 22), (26, .iload_n 1), (27, .iaload), (28, .istore_n 3), (29, .aload_n 0), (30, .getfield 22), (33, .iload_n 1), (34, .iload_n 2), (35, .iastore), (36, .iload_n 3), (37, .ireturn)]
theorem qX9_rule : gDec mX9_rule.2.1 iX9_rule := by unfold gDec; decide +kernel
abbrev mX9_type : gM := (yX9_type, cX9_type, 5, (some .int))
def iX9_type : List (Nat × Instr) := [(0, .iload_n 3), (1, .i2l), (2, .lconst 1), (3, .ldc2_w 130), (6, .invokestatic 84), (9, .ifCond .ne 5), (12, .iconst (-1)), (13, .ireturn), (14, .iconst 0), (15, .istore 4), (17, .iload 4), (19, .iload_n 3), (20, .if_icmp .ge 34), (23, .lload_n 1), (24, .bipush 8), (26, .iload 4), (28, .imul), (29, .lshr), (30, .ldc2_w 132), (33, .land), (34, .ldc2_w 134), (37, .ldc2_w 136), (40, .invokestatic 84), (43, .ifCond .ne 5), (46, .iconst (-1)), (47, .ireturn), (48, .iinc 4 1), (51, .goto (-34)), (54, .aload_n 0), (55, .getfield 138), (58, .iload_n 3), (59, .iadd), (60, .bipush 100), (62, .if_icmp .le 6), (65, .bipush (-3)), (67, .ireturn), (68, .iload_n 3), (69, .iconst 1), (70, .isub), (71, .istore 4), (73, .iload 4), (75, .ifCond .lt 40), (78, .aload_n 0), (79, .getfield 40), (82, .aload_n 0), (83, .getfield 138), (86, .lload_n 1), (87, .bipush 8), (89, .iload 4), (91, .imul), (92, .lshr), (93, .ldc2_w 132), (96, .land), (97, .l2i), (98, .iastore), (99, .aload_n 0), (100, .dup), (101, .getfield 138), (104, .iconst 1), (105, .iadd), (106, .putfield 138), (109, .iinc 4 (-1)), (112, .goto (-39)), (115, .aload_n 0), (116, .getfield 138), (119, .ireturn)]
theorem qX9_type : gDec mX9_type.2.1 iX9_type := by unfold gDec; decide +kernel
abbrev mX9_here : gM := (yX9_here, cX9_here, 1, (some .int))
def iX9_here : List (Nat × Instr) := [(0, .aload_n 0), (1, .getfield 141), (4, .aload_n 0), (5, .getfield 138), (8, .if_icmp .ge 30), (11, .aload_n 0), (12, .getfield 40), (15, .aload_n 0), (16, .getfield 141), (19, .iaload), (20, .bipush 32), (22, .if_icmp .ne 16), (25, .aload_n 0), (26, .dup), (27, .getfield 141), (30, .iconst 1), (31, .iadd), (32, .putfield 141), (35, .goto (-35)), (38, .aload_n 0), (39, .getfield 141), (42, .aload_n 0), (43, .getfield 138), (46, .if_icmp .ge 15), (49, .aload_n 0), (50, .getfield 40), (53, .aload_n 0), (54, .getfield 141), (57, .iaload), (58, .goto 4), (61, .iconst 0), (62, .ireturn)]
theorem qX9_here : gDec mX9_here.2.1 iX9_here := by unfold gDec; decide +kernel
abbrev mX9_has : gM := (yX9_has, cX9_has, 3, (some .boolean))
def iX9_has : List (Nat × Instr) := [(0, .aload_n 0), (1, .getfield 144), (4, .ifCond .ne 15), (7, .aload_n 0), (8, .invokevirtual 148), (11, .iload_n 1), (12, .if_icmp .ne 7), (15, .iconst 1), (16, .goto 4), (19, .iconst 0), (20, .istore_n 2), (21, .aload_n 0), (22, .dup), (23, .getfield 141), (26, .iload_n 2), (27, .ifCond .eq 7), (30, .iconst 1), (31, .goto 4), (34, .iconst 0), (35, .iadd), (36, .putfield 141), (39, .iload_n 2), (40, .ireturn)]
theorem qX9_has : gDec mX9_has.2.1 iX9_has := by unfold gDec; decide +kernel
abbrev mX9_number : gM := (yX9_number, cX9_number, 3, (some .int))
def iX9_number : List (Nat × Instr) := [(0, .aload_n 0), (1, .getfield 144), (4, .ifCond .ne 20), (7, .aload_n 0), (8, .invokevirtual 148), (11, .i2l), (12, .ldc2_w 152), (15, .ldc2_w 154), (18, .invokestatic 84), (21, .ifCond .ne 10), (24, .aload_n 0), (25, .iconst 1), (26, .putfield 144), (29, .iconst 0), (30, .ireturn), (31, .aload_n 0), (32, .getfield 141), (35, .istore_n 1), (36, .iconst 0), (37, .istore_n 2), (38, .aload_n 0), (39, .getfield 141), (42, .aload_n 0), (43, .getfield 138), (46, .if_icmp .ge 67), (49, .aload_n 0), (50, .getfield 40), (53, .aload_n 0), (54, .getfield 141), (57, .iaload), (58, .i2l), (59, .ldc2_w 152), (62, .ldc2_w 154), (65, .invokestatic 84), (68, .ifCond .eq 45), (71, .iload_n 2), (72, .sipush 999), (75, .if_icmp .le 7), (78, .iload_n 2), (79, .goto 20), (82, .bipush 10), (84, .iload_n 2), (85, .imul), (86, .aload_n 0), (87, .getfield 40), (90, .aload_n 0), (91, .getfield 141), (94, .iaload), (95, .iadd), (96, .bipush 48), (98, .isub), (99, .istore_n 2), (100, .aload_n 0), (101, .dup), (102, .getfield 141), (105, .iconst 1), (106, .iadd), (107, .putfield 141), (110, .goto (-72)), (113, .aload_n 0), (114, .iload_n 2), (115, .bipush 20), (117, .if_icmp .le 7), (120, .iconst 1), (121, .goto 4), (124, .iconst 0), (125, .putfield 144), (128, .aload_n 0), (129, .aload_n 0), (130, .getfield 144), (133, .ifCond .eq 7), (136, .iload_n 1), (137, .goto 7), (140, .aload_n 0), (141, .getfield 141), (144, .putfield 141), (147, .iload_n 2), (148, .ireturn)]
theorem qX9_number : gDec mX9_number.2.1 iX9_number := by unfold gDec; decide +kernel
abbrev mX9_digit : gM := (yX9_digit, cX9_digit, 3, (some .int))
def iX9_digit : List (Nat × Instr) := [(0, .aload_n 0), (1, .aload_n 0), (2, .getfield 144), (5, .ifCond .ne 22), (8, .aload_n 0), (9, .invokevirtual 148), (12, .i2l), (13, .ldc2_w 152), (16, .bipush 48), (18, .iload_n 1), (19, .iadd), (20, .i2l), (21, .invokestatic 84), (24, .ifCond .ne 7), (27, .iconst 1), (28, .goto 4), (31, .iconst 0), (32, .putfield 144), (35, .aload_n 0), (36, .getfield 144), (39, .ifCond .eq 7), (42, .iconst 0), (43, .goto 10), (46, .aload_n 0), (47, .invokevirtual 148), (50, .bipush 48), (52, .isub), (53, .istore_n 2), (54, .aload_n 0), (55, .dup), (56, .getfield 141), (59, .aload_n 0), (60, .getfield 144), (63, .ifCond .eq 7), (66, .iconst 0), (67, .goto 4), (70, .iconst 1), (71, .iadd), (72, .putfield 141), (75, .iload_n 2), (76, .ireturn)]
theorem qX9_digit : gDec mX9_digit.2.1 iX9_digit := by unfold gDec; decide +kernel
abbrev mX9_comma : gM := (yX9_comma, cX9_comma, 1, none)
def iX9_comma : List (Nat × Instr) := [(0, .aload_n 0), (1, .aload_n 0), (2, .bipush 44), (4, .invokevirtual 156), (7, .ifCond .ne 7), (10, .iconst 1), (11, .goto 4), (14, .iconst 0), (15, .putfield 144), (18, .return_)]
theorem qX9_comma : gDec mX9_comma.2.1 iX9_comma := by unfold gDec; decide +kernel
abbrev mX9_signed : gM := (yX9_signed, cX9_signed, 3, (some .int))
def iX9_signed : List (Nat × Instr) := [(0, .aload_n 0), (1, .bipush 45), (3, .invokevirtual 156), (6, .istore_n 1), (7, .aload_n 0), (8, .aload_n 0), (9, .getfield 144), (12, .ifCond .ne 16), (15, .iload_n 1), (16, .ifCond .ne 16), (19, .aload_n 0), (20, .bipush 43), (22, .invokevirtual 156), (25, .ifCond .ne 7), (28, .iconst 1), (29, .goto 4), (32, .iconst 0), (33, .putfield 144), (36, .aload_n 0), (37, .bipush 9), (39, .invokevirtual 159), (42, .istore_n 2), (43, .iload_n 1), (44, .ifCond .eq 8), (47, .iload_n 2), (48, .ineg), (49, .goto 4), (52, .iload_n 2), (53, .ireturn)]
theorem qX9_signed : gDec mX9_signed.2.1 iX9_signed := by unfold gDec; decide +kernel
abbrev mX9_things : gM := (yX9_things, cX9_things, 4, (some .int))
def iX9_things : List (Nat × Instr) := [(0, .aload_n 0), (1, .iconst 0), (2, .putfield 141), (5, .aload_n 0), (6, .iconst 0), (7, .putfield 144), (10, .iconst 0), (11, .istore_n 1), (12, .iconst 1), (13, .istore_n 2), (14, .iload_n 2), (15, .ifCond .eq 78), (18, .aload_n 0), (19, .getfield 43), (22, .iconst 3), (23, .iload_n 1), (24, .imul), (25, .aload_n 0), (26, .invokevirtual 163), (29, .iastore), (30, .aload_n 0), (31, .invokevirtual 166), (34, .aload_n 0), (35, .getfield 43), (38, .iconst 3), (39, .iload_n 1), (40, .imul), (41, .iconst 1), (42, .iadd), (43, .aload_n 0), (44, .invokevirtual 163), (47, .iastore), (48, .aload_n 0), (49, .invokevirtual 166), (52, .aload_n 0), (53, .getfield 43), (56, .iconst 3), (57, .iload_n 1), (58, .imul), (59, .iconst 2), (60, .iadd), (61, .aload_n 0), (62, .iconst 5), (63, .invokevirtual 159), (66, .iastore), (67, .iinc 1 1), (70, .iload_n 1), (71, .iconst 5), (72, .if_icmp .ge 16), (75, .aload_n 0), (76, .bipush 59), (78, .invokevirtual 156), (81, .ifCond .eq 7), (84, .iconst 1), (85, .goto 4), (88, .iconst 0), (89, .istore_n 2), (90, .goto (-76)), (93, .aload_n 0), (94, .aload_n 0), (95, .getfield 144), (98, .ifCond .ne 10), (101, .aload_n 0), (102, .invokevirtual 148), (105, .ifCond .eq 7), (108, .iconst 1), (109, .goto 4), (112, .iconst 0), (113, .putfield 144), (116, .aload_n 0), (117, .iconst 0), (118, .putfield 138), (121, .aload_n 0), (122, .getfield 144), (125, .ifCond .eq 11), (128, .bipush (-20)), (130, .aload_n 0), (131, .getfield 141), (134, .isub), (135, .ireturn), (136, .aload_n 0), (137, .iload_n 1), (138, .putfield 88), (141, .iconst 0), (142, .istore_n 3), (143, .iload_n 3), (144, .iload_n 1), (145, .if_icmp .ge 42), (148, .aload_n 0), (149, .iload_n 3), (150, .aload_n 0), (151, .getfield 43), (154, .iconst 3), (155, .iload_n 3), (156, .imul), (157, .iaload), (158, .aload_n 0), (159, .getfield 43), (162, .iconst 3), (163, .iload_n 3), (164, .imul), (165, .iconst 1), (166, .iadd), (167, .iaload), (168, .aload_n 0), (169, .getfield 43), (172, .iconst 3), (173, .iload_n 3), (174, .imul), (175, .iconst 2), (176, .iadd), (177, .iaload), (178, .invokevirtual 105), (181, .iinc 3 1), (184, .goto (-41)), (187, .iload_n 1), (188, .ireturn)]
theorem qX9_things : gDec mX9_things.2.1 iX9_things := by unfold gDec; decide +kernel
abbrev mX9_arm : gM := (yX9_arm, cX9_arm, 3, none)
def iX9_arm : List (Nat × Instr) := [(0, .aload_n 0), (1, .getfield 43), (4, .iload_n 1), (5, .aload_n 0), (6, .aload_n 0), (7, .getfield 91), (10, .iconst 1), (11, .isub), (12, .invokevirtual 159), (15, .iastore), (16, .aload_n 0), (17, .getfield 43), (20, .iload_n 1), (21, .iconst 1), (22, .iadd), (23, .aload_n 0), (24, .invokevirtual 169), (27, .iastore), (28, .aload_n 0), (29, .invokevirtual 148), (32, .pop), (33, .aload_n 0), (34, .getfield 141), (37, .istore_n 2), (38, .aload_n 0), (39, .getfield 43), (42, .iload_n 1), (43, .iconst 2), (44, .iadd), (45, .aload_n 0), (46, .invokevirtual 169), (49, .iastore), (50, .aload_n 0), (51, .getfield 144), (54, .ifCond .ne 35), (57, .aload_n 0), (58, .getfield 43), (61, .iload_n 1), (62, .iconst 1), (63, .iadd), (64, .iaload), (65, .ifCond .ne 24), (68, .aload_n 0), (69, .getfield 43), (72, .iload_n 1), (73, .iconst 2), (74, .iadd), (75, .iaload), (76, .ifCond .ne 13), (79, .aload_n 0), (80, .iconst 1), (81, .putfield 144), (84, .aload_n 0), (85, .iload_n 2), (86, .putfield 141), (89, .return_)]
theorem qX9_arm : gDec mX9_arm.2.1 iX9_arm := by unfold gDec; decide +kernel
abbrev mX9_talk : gM := (yX9_talk, cX9_talk, 4, (some .int))
def iX9_talk : List (Nat × Instr) := [(0, .aload_n 0), (1, .iconst 0), (2, .putfield 141), (5, .aload_n 0), (6, .iconst 0), (7, .putfield 144), (10, .iconst 0), (11, .istore_n 1), (12, .iconst 1), (13, .istore_n 2), (14, .iload_n 2), (15, .ifCond .eq 98), (18, .aload_n 0), (19, .getfield 46), (22, .iload_n 1), (23, .iconst 0), (24, .iastore), (25, .iconst 1), (26, .istore_n 3), (27, .iload_n 3), (28, .ifCond .eq 58), (31, .aload_n 0), (32, .bipush 9), (34, .iload_n 1), (35, .imul), (36, .iconst 3), (37, .aload_n 0), (38, .getfield 46), (41, .iload_n 1), (42, .iaload), (43, .imul), (44, .iadd), (45, .invokevirtual 172), (48, .aload_n 0), (49, .getfield 46), (52, .iload_n 1), (53, .dup2), (54, .iaload), (55, .iconst 1), (56, .iadd), (57, .iastore), (58, .aload_n 0), (59, .getfield 46), (62, .iload_n 1), (63, .iaload), (64, .iconst 3), (65, .if_icmp .ge 16), (68, .aload_n 0), (69, .bipush 44), (71, .invokevirtual 156), (74, .ifCond .eq 7), (77, .iconst 1), (78, .goto 4), (81, .iconst 0), (82, .istore_n 3), (83, .goto (-56)), (86, .iinc 1 1), (89, .iload_n 1), (90, .bipush 6), (92, .if_icmp .ge 16), (95, .aload_n 0), (96, .bipush 59), (98, .invokevirtual 156), (101, .ifCond .eq 7), (104, .iconst 1), (105, .goto 4), (108, .iconst 0), (109, .istore_n 2), (110, .goto (-96)), (113, .aload_n 0), (114, .aload_n 0), (115, .getfield 144), (118, .ifCond .ne 10), (121, .aload_n 0), (122, .invokevirtual 148), (125, .ifCond .eq 7), (128, .iconst 1), (129, .goto 4), (132, .iconst 0), (133, .putfield 144), (136, .aload_n 0), (137, .iconst 0), (138, .putfield 138), (141, .aload_n 0), (142, .getfield 144), (145, .ifCond .eq 11), (148, .bipush (-20)), (150, .aload_n 0), (151, .getfield 141), (154, .isub), (155, .ireturn), (156, .aload_n 0), (157, .iload_n 1), (158, .putfield 176), (161, .iconst 0), (162, .istore_n 3), (163, .iload_n 3), (164, .iload_n 1), (165, .if_icmp .ge 21), (168, .aload_n 0), (169, .getfield 25), (172, .iload_n 3), (173, .aload_n 0), (174, .getfield 46), (177, .iload_n 3), (178, .iaload), (179, .iastore), (180, .iinc 3 1), (183, .goto (-20)), (186, .iconst 0), (187, .istore_n 3), (188, .iload_n 3), (189, .bipush 54), (191, .if_icmp .ge 21), (194, .aload_n 0), (195, .getfield 28), (198, .iload_n 3), (199, .aload_n 0), (200, .getfield 43), (203, .iload_n 3), (204, .iaload), (205, .iastore), (206, .iinc 3 1), (209, .goto (-21)), (212, .iload_n 1), (213, .ireturn)]
theorem qX9_talk : gDec mX9_talk.2.1 iX9_talk := by unfold gDec; decide +kernel
abbrev mX9_count : gM := (yX9_count, cX9_count, 4, (some .int))
def iX9_count : List (Nat × Instr) := [(0, .iconst 0), (1, .istore_n 2), (2, .iconst 0), (3, .istore_n 3), (4, .iload_n 3), (5, .aload_n 0), (6, .getfield 176), (9, .if_icmp .ge 18), (12, .iload_n 2), (13, .aload_n 0), (14, .getfield 25), (17, .iload_n 3), (18, .iaload), (19, .iadd), (20, .istore_n 2), (21, .iinc 3 1), (24, .goto (-20)), (27, .iload_n 1), (68, .aload_n 0), (69, .getfield 88), (72, .ireturn), (73, .aload_n 0), (74, .getfield 91), (77, .ireturn), (78, .aload_n 0), (79, .getfield 176), (82, .ireturn), (83, .iload_n 2), (84, .ireturn), (85, .aload_n 0), (86, .getfield 179), (89, .ireturn), (90, .aload_n 0), (91, .getfield 182), (94, .ireturn), (95, .iconst (-1)), (96, .ireturn)]
theorem tX9_count_28 : decode mX9_count.2.1 28 = .ok (.tableswitch 67 0 5 #[40, 45, 50, 55, 57, 62], 40) := by decide +kernel
theorem qX9_count : gDec mX9_count.2.1 iX9_count := by unfold gDec; decide +kernel
abbrev mX9_isMet : gM := (yX9_isMet, cX9_isMet, 12, (some .boolean))
def iX9_isMet : List (Nat × Instr) := [(0, .iload 5), (2, .iload_n 1), (3, .isub), (4, .istore 8), (6, .iload 6), (8, .iload_n 2), (9, .isub), (10, .istore 9), (12, .iload 8), (14, .iload 4), (16, .imul), (17, .iload 9), (19, .iload_n 3), (20, .imul), (21, .isub), (22, .istore 10), (24, .iload 7), (26, .iload 7), (28, .imul), (29, .iload_n 3), (30, .iload_n 3), (31, .imul), (32, .iload 4), (34, .iload 4), (36, .imul), (37, .iadd), (38, .imul), (39, .istore 11), (41, .iload 8), (43, .iload 8), (45, .imul), (46, .iload 9), (48, .iload 9), (50, .imul), (51, .iadd), (52, .iload 7), (54, .iload 7), (56, .imul), (57, .if_icmp .le 50), (60, .iload 8), (62, .iload_n 3), (63, .imul), (64, .iload 9), (66, .iload 4), (68, .imul), (69, .iadd), (70, .ifCond .le 37), (73, .iload 10), (75, .iload 10), (77, .imul), (78, .iload 11), (80, .if_icmp .lt 23), (83, .aload_n 0), (84, .getfield 22), (87, .iconst 1), (88, .iaload), (89, .iconst 1), (90, .if_icmp .ne 17), (93, .iload 10), (95, .iload 10), (97, .imul), (98, .iload 11), (100, .if_icmp .ne 7), (103, .iconst 1), (104, .goto 4), (107, .iconst 0), (108, .ireturn)]
theorem qX9_isMet : gDec mX9_isMet.2.1 iX9_isMet := by unfold gDec; decide +kernel
abbrev mX9_meetsAt : gM := (yX9_meetsAt, cX9_meetsAt, 8, (some .int))
def iX9_meetsAt : List (Nat × Instr) := [(0, .iconst 0), (1, .istore 6), (3, .iconst 0), (4, .istore 7), (6, .iload 7), (8, .aload_n 0), (9, .getfield 88), (12, .if_icmp .ge 63), (15, .iload 6), (17, .aload_n 0), (18, .iload_n 1), (19, .iload_n 2), (20, .iload_n 3), (21, .iload 4), (23, .aload_n 0), (24, .iload 7), (26, .iload 5), (28, .iconst 0), (29, .invokevirtual 123), (32, .aload_n 0), (33, .iload 7), (35, .iload 5), (37, .iconst 1), (38, .invokevirtual 123), (41, .aload_n 0), (42, .getfield 13), (45, .iconst 5), (46, .iload 7), (48, .imul), (49, .iconst 2), (50, .iadd), (51, .iaload), (52, .invokevirtual 185), (55, .ifCond .eq 10), (58, .iconst 1), (59, .iload 7), (61, .ishl), (62, .goto 4), (65, .iconst 0), (66, .ior), (67, .istore 6), (69, .iinc 7 1), (72, .goto (-66)), (75, .iload 6), (77, .ireturn)]
theorem qX9_meetsAt : gDec mX9_meetsAt.2.1 iX9_meetsAt := by unfold gDec; decide +kernel
abbrev mX9_ahead : gM := (yX9_ahead, cX9_ahead, 12, (some .int))
def iX9_ahead : List (Nat × Instr) := [(0, .bipush (-4)), (2, .istore 7), (4, .iconst 0), (5, .istore 8), (7, .iconst 0), (8, .istore 9), (10, .iload 9), (12, .aload_n 0), (13, .getfield 88), (16, .if_icmp .ge 97), (19, .aload_n 0), (20, .iload 9), (22, .iload 6), (24, .iconst 0), (25, .invokevirtual 123), (28, .iload_n 2), (29, .isub), (30, .iload 4), (32, .imul), (33, .aload_n 0), (34, .iload 9), (36, .iload 6), (38, .iconst 1), (39, .invokevirtual 123), (42, .iload_n 3), (43, .isub), (44, .iload 5), (46, .imul), (47, .iadd), (48, .istore 10), (50, .iload_n 1), (51, .iload 9), (53, .ishr), (54, .iconst 1), (55, .iand), (56, .iconst 1), (57, .if_icmp .ne 19), (60, .iload 7), (62, .ifCond .lt 10), (65, .iload 10), (67, .iload 8), (69, .if_icmp .ge 7), (72, .iconst 1), (73, .goto 4), (76, .iconst 0), (77, .istore 11), (79, .iload 11), (81, .ifCond .eq 8), (84, .iload 9), (86, .goto 5), (89, .iload 7), (91, .istore 7), (93, .iload 11), (95, .ifCond .eq 8), (98, .iload 10), (100, .goto 5), (103, .iload 8), (105, .istore 8), (107, .iinc 9 1), (110, .goto (-100)), (113, .aload_n 0), (114, .getfield 22), (117, .iconst 0), (118, .iaload), (119, .ifCond .eq 8), (122, .iload 7), (124, .ifCond .ge 7), (127, .iload_n 1), (128, .goto 7), (131, .iconst 1), (132, .iload 7), (134, .ishl), (135, .ireturn)]
theorem qX9_ahead : gDec mX9_ahead.2.1 iX9_ahead := by unfold gDec; decide +kernel
abbrev mX9_meansAt : gM := (yX9_meansAt, cX9_meansAt, 6, (some .int))
def iX9_meansAt : List (Nat × Instr) := [(0, .aload_n 0), (1, .aload_n 0), (2, .iload_n 1), (3, .iload_n 2), (4, .iload_n 3), (5, .iload 4), (7, .iload 5), (9, .invokevirtual 189), (12, .iload_n 1), (13, .iload_n 2), (14, .iload_n 3), (15, .iload 4), (17, .iload 5), (19, .invokevirtual 193), (22, .ireturn)]
theorem qX9_meansAt : gDec mX9_meansAt.2.1 iX9_meansAt := by unfold gDec; decide +kernel
abbrev mX9_meets : gM := (yX9_meets, cX9_meets, 5, (some .int))
def iX9_meets : List (Nat × Instr) := [(0, .iload_n 1), (1, .iload_n 2), (2, .invokestatic 100), (5, .ifCond .eq 27), (8, .iload_n 3), (9, .i2l), (10, .iload 4), (12, .i2l), (13, .invokestatic 197), (16, .ifCond .eq 16), (19, .aload_n 0), (20, .iload_n 1), (21, .iload_n 2), (22, .iload_n 3), (23, .iload 4), (25, .iconst 0), (26, .invokevirtual 189), (29, .goto 4), (32, .iconst (-1)), (33, .ireturn)]
theorem qX9_meets : gDec mX9_meets.2.1 iX9_meets := by unfold gDec; decide +kernel
abbrev mX9_means : gM := (yX9_means, cX9_means, 5, (some .int))
def iX9_means : List (Nat × Instr) := [(0, .aload_n 0), (1, .iload_n 1), (2, .invokevirtual 127), (5, .ifCond .eq 44), (8, .iload_n 2), (9, .i2l), (10, .iload_n 3), (11, .i2l), (12, .invokestatic 197), (15, .ifCond .eq 34), (18, .iload 4), (20, .invokestatic 120), (23, .ifCond .eq 26), (26, .aload_n 0), (27, .aload_n 0), (28, .getfield 16), (31, .iload_n 1), (32, .iaload), (33, .aload_n 0), (34, .getfield 19), (37, .iload_n 1), (38, .iaload), (39, .iload_n 2), (40, .iload_n 3), (41, .iload 4), (43, .invokevirtual 201), (46, .goto 4), (49, .iconst (-1)), (50, .ireturn)]
theorem qX9_means : gDec mX9_means.2.1 iX9_means := by unfold gDec; decide +kernel
abbrev mX9_both : gM := (yX9_both, cX9_both, 8, (some .int))
def iX9_both : List (Nat × Instr) := [(0, .aload_n 0), (1, .iload_n 1), (2, .invokevirtual 127), (5, .ifCond .eq 34), (8, .iload_n 2), (9, .i2l), (10, .iload_n 3), (11, .i2l), (12, .invokestatic 197), (15, .ifCond .eq 24), (18, .aload_n 0), (19, .iload 4), (21, .invokevirtual 127), (24, .ifCond .eq 15), (27, .iload 5), (29, .i2l), (30, .iload 6), (32, .i2l), (33, .invokestatic 197), (36, .ifCond .ne 5), (39, .iconst (-1)), (40, .ireturn), (41, .aload_n 0), (42, .aload_n 0), (43, .getfield 16), (46, .iload_n 1), (47, .iaload), (48, .aload_n 0), (49, .getfield 19), (52, .iload_n 1), (53, .iaload), (54, .iload_n 2), (55, .iload_n 3), (56, .iconst 0), (57, .invokevirtual 189), (60, .aload_n 0), (61, .aload_n 0), (62, .getfield 16), (65, .iload 4), (67, .iaload), (68, .aload_n 0), (69, .getfield 19), (72, .iload 4), (74, .iaload), (75, .iload 5), (77, .iload 6), (79, .iconst 0), (80, .invokevirtual 189), (83, .iand), (84, .istore 7), (86, .aload_n 0), (87, .iload 7), (89, .aload_n 0), (90, .getfield 16), (93, .iload_n 1), (94, .iaload), (95, .aload_n 0), (96, .getfield 19), (99, .iload_n 1), (100, .iaload), (101, .iload_n 2), (102, .iload_n 3), (103, .iconst 0), (104, .invokevirtual 193), (107, .ireturn)]
theorem qX9_both : gDec mX9_both.2.1 iX9_both := by unfold gDec; decide +kernel
abbrev mX9_saysAt : gM := (yX9_saysAt, cX9_saysAt, 6, (some .int))
def iX9_saysAt : List (Nat × Instr) := [(0, .iconst 1), (1, .aload_n 0), (2, .getfield 88), (5, .ishl), (6, .iconst 1), (7, .isub), (8, .istore_n 3), (9, .iconst 0), (10, .istore 4), (12, .iload 4), (14, .aload_n 0), (15, .getfield 25), (18, .iload_n 1), (19, .iaload), (20, .if_icmp .ge 70), (23, .bipush 9), (25, .iload_n 1), (26, .imul), (27, .iconst 3), (28, .iload 4), (30, .imul), (31, .iadd), (32, .istore 5), (34, .iload_n 3), (35, .aload_n 0), (36, .aload_n 0), (37, .getfield 16), (40, .aload_n 0), (41, .getfield 28), (44, .iload 5), (46, .iaload), (47, .iaload), (48, .aload_n 0), (49, .getfield 19), (52, .aload_n 0), (53, .getfield 28), (56, .iload 5), (58, .iaload), (59, .iaload), (60, .aload_n 0), (61, .getfield 28), (64, .iload 5), (66, .iconst 1), (67, .iadd), (68, .iaload), (69, .aload_n 0), (70, .getfield 28), (73, .iload 5), (75, .iconst 2), (76, .iadd), (77, .iaload), (78, .iload_n 2), (79, .invokevirtual 189), (82, .iand), (83, .istore_n 3), (84, .iinc 4 1), (87, .goto (-75)), (90, .aload_n 0), (91, .iload_n 3), (92, .aload_n 0), (93, .getfield 16), (96, .aload_n 0), (97, .getfield 28), (100, .bipush 9), (102, .iload_n 1), (103, .imul), (104, .iaload), (105, .iaload), (106, .aload_n 0), (107, .getfield 19), (110, .aload_n 0), (111, .getfield 28), (114, .bipush 9), (116, .iload_n 1), (117, .imul), (118, .iaload), (119, .iaload), (120, .aload_n 0), (121, .getfield 28), (124, .bipush 9), (126, .iload_n 1), (127, .imul), (128, .iconst 1), (129, .iadd), (130, .iaload), (131, .aload_n 0), (132, .getfield 28), (135, .bipush 9), (137, .iload_n 1), (138, .imul), (139, .iconst 2), (140, .iadd), (141, .iaload), (142, .iload_n 2), (143, .invokevirtual 193), (146, .ireturn)]
theorem qX9_saysAt : gDec mX9_saysAt.2.1 iX9_saysAt := by unfold gDec; decide +kernel
abbrev mX9_says : gM := (yX9_says, cX9_says, 3, (some .int))
def iX9_says : List (Nat × Instr) := [(0, .iload_n 1), (1, .i2l), (2, .lconst 0), (3, .aload_n 0), (4, .getfield 176), (7, .iconst 1), (8, .isub), (9, .i2l), (10, .invokestatic 84), (13, .ifCond .eq 19), (16, .iload_n 2), (17, .invokestatic 120), (20, .ifCond .eq 12), (23, .aload_n 0), (24, .iload_n 1), (25, .iload_n 2), (26, .invokevirtual 204), (29, .goto 4), (32, .iconst (-1)), (33, .ireturn)]
theorem qX9_says : gDec mX9_says.2.1 iX9_says := by unfold gDec; decide +kernel
abbrev mX9_isSingle : gM := (yX9_isSingle, cX9_isSingle, 1, (some .boolean))
def iX9_isSingle : List (Nat × Instr) := [(0, .iload_n 0), (1, .ifCond .eq 15), (4, .iload_n 0), (5, .iload_n 0), (6, .iconst 1), (7, .isub), (8, .iand), (9, .ifCond .ne 7), (12, .iconst 1), (13, .goto 4), (16, .iconst 0), (17, .ireturn)]
theorem qX9_isSingle : gDec mX9_isSingle.2.1 iX9_isSingle := by unfold gDec; decide +kernel
abbrev mX9_dark : gM := (yX9_dark, cX9_dark, 4, (some .int))
def iX9_dark : List (Nat × Instr) := [(0, .iload_n 1), (1, .invokestatic 120), (4, .ifCond .ne 5), (7, .iconst (-1)), (8, .ireturn), (9, .iconst 0), (10, .istore_n 2), (11, .iconst 0), (12, .istore_n 3), (13, .iload_n 3), (14, .aload_n 0), (15, .getfield 176), (18, .if_icmp .ge 31), (21, .iload_n 2), (22, .aload_n 0), (23, .iload_n 3), (24, .iload_n 1), (25, .invokevirtual 204), (28, .invokestatic 208), (31, .ifCond .eq 7), (34, .iconst 0), (35, .goto 6), (38, .iconst 1), (39, .iload_n 3), (40, .ishl), (41, .ior), (42, .istore_n 2), (43, .iinc 3 1), (46, .goto (-33)), (49, .iload_n 2), (50, .ireturn)]
theorem qX9_dark : gDec mX9_dark.2.1 iX9_dark := by unfold gDec; decide +kernel
abbrev mX9_when : gM := (yX9_when, cX9_when, 7, (some .int))
def iX9_when : List (Nat × Instr) := [(0, .aload_n 0), (1, .iload_n 1), (2, .invokevirtual 127), (5, .ifCond .eq 22), (8, .iload_n 2), (9, .i2l), (10, .iload_n 3), (11, .i2l), (12, .invokestatic 197), (15, .ifCond .eq 12), (18, .aload_n 0), (19, .iload 4), (21, .invokevirtual 115), (24, .ifCond .ne 5), (27, .iconst (-1)), (28, .ireturn), (29, .bipush (-4)), (31, .istore 5), (33, .bipush 60), (35, .istore 6), (37, .iload 6), (39, .ifCond .lt 45), (42, .aload_n 0), (43, .aload_n 0), (44, .getfield 16), (47, .iload_n 1), (48, .iaload), (49, .aload_n 0), (50, .getfield 19), (53, .iload_n 1), (54, .iaload), (55, .iload_n 2), (56, .iload_n 3), (57, .iload 6), (59, .invokevirtual 201), (62, .iconst 1), (63, .iload 4), (65, .ishl), (66, .if_icmp .ne 8), (69, .iload 6), (71, .goto 5), (74, .iload 5), (76, .istore 5), (78, .iinc 6 (-1)), (81, .goto (-44)), (84, .iload 5), (86, .ireturn)]
theorem qX9_when : gDec mX9_when.2.1 iX9_when := by unfold gDec; decide +kernel
abbrev mX9_misread : gM := (yX9_misread, cX9_misread, 5, (some .int))
def iX9_misread : List (Nat × Instr) := [(0, .aload_n 0), (1, .iload_n 1), (2, .invokevirtual 127), (5, .ifCond .eq 52), (8, .iload_n 2), (9, .i2l), (10, .iload_n 3), (11, .i2l), (12, .invokestatic 197), (15, .ifCond .eq 42), (18, .aload_n 0), (19, .iload 4), (21, .invokevirtual 127), (24, .ifCond .eq 33), (27, .iload_n 1), (28, .iload 4), (30, .if_icmp .eq 27), (33, .aload_n 0), (34, .aload_n 0), (35, .getfield 16), (38, .iload 4), (40, .iaload), (41, .aload_n 0), (42, .getfield 19), (45, .iload 4), (47, .iaload), (48, .iload_n 2), (49, .iload_n 3), (50, .iconst 0), (51, .invokevirtual 201), (54, .goto 4), (57, .iconst (-1)), (58, .ireturn)]
theorem qX9_misread : gDec mX9_misread.2.1 iX9_misread := by unfold gDec; decide +kernel
abbrev mX9_which : gM := (yX9_which, cX9_which, 2, (some .int))
def iX9_which : List (Nat × Instr) := [(0, .iconst 0), (1, .istore_n 1), (2, .iload_n 0), (3, .iload_n 1), (4, .ishr), (5, .iconst 1), (6, .iand), (7, .ifCond .ne 9), (10, .iinc 1 1), (13, .goto (-11)), (16, .iload_n 1), (17, .ireturn)]
theorem qX9_which : gDec mX9_which.2.1 iX9_which := by unfold gDec; decide +kernel
abbrev mX9_bargain : gM := (yX9_bargain, cX9_bargain, 10, (some .int))
def iX9_bargain : List (Nat × Instr) := [(0, .aload_n 0), (1, .iload_n 1), (2, .invokevirtual 127), (5, .ifCond .eq 40), (8, .iload_n 2), (9, .i2l), (10, .iload_n 3), (11, .i2l), (12, .invokestatic 197), (15, .ifCond .eq 30), (18, .aload_n 0), (19, .iload 4), (21, .invokevirtual 127), (24, .ifCond .eq 21), (27, .iload 5), (29, .i2l), (30, .iload 6), (32, .i2l), (33, .invokestatic 197), (36, .ifCond .eq 9), (39, .iload_n 1), (40, .iload 4), (42, .if_icmp .ne 5), (45, .iconst (-1)), (46, .ireturn), (47, .aload_n 0), (48, .aload_n 0), (49, .getfield 16), (52, .iload_n 1), (53, .iaload), (54, .aload_n 0), (55, .getfield 19), (58, .iload_n 1), (59, .iaload), (60, .iload_n 2), (61, .iload_n 3), (62, .iconst 0), (63, .invokevirtual 201), (66, .istore 7), (68, .aload_n 0), (69, .aload_n 0), (70, .getfield 16), (73, .iload 4), (75, .iaload), (76, .aload_n 0), (77, .getfield 19), (80, .iload 4), (82, .iaload), (83, .iload 5), (85, .iload 6), (87, .iconst 0), (88, .invokevirtual 201), (91, .istore 8), (93, .iload 7), (95, .aload_n 0), (96, .aload_n 0), (97, .getfield 16), (100, .iload 4), (102, .iaload), (103, .aload_n 0), (104, .getfield 19), (107, .iload 4), (109, .iaload), (110, .iload_n 2), (111, .iload_n 3), (112, .iconst 0), (113, .invokevirtual 201), (116, .if_icmp .ne 33), (119, .iload 8), (121, .aload_n 0), (122, .aload_n 0), (123, .getfield 16), (126, .iload_n 1), (127, .iaload), (128, .aload_n 0), (129, .getfield 19), (132, .iload_n 1), (133, .iaload), (134, .iload 5), (136, .iload 6), (138, .iconst 0), (139, .invokevirtual 201), (142, .if_icmp .ne 7), (145, .iconst 1), (146, .goto 4), (149, .iconst 0), (150, .istore 9), (152, .iload 9), (154, .ifCond .eq 43), (157, .iload 7), (159, .invokestatic 208), (162, .ifCond .eq 35), (165, .iload 8), (167, .invokestatic 208), (170, .ifCond .eq 27), (173, .iload 7), (175, .iload 8), (177, .if_icmp .eq 20), (180, .bipush 10), (182, .iload 7), (184, .invokestatic 211), (187, .imul), (188, .iload 8), (190, .invokestatic 211), (193, .iadd), (194, .goto 5), (197, .bipush (-2)), (199, .ireturn)]
theorem qX9_bargain : gDec mX9_bargain.2.1 iX9_bargain := by unfold gDec; decide +kernel
abbrev mX9_aloneBy : gM := (yX9_aloneBy, cX9_aloneBy, 6, (some .int))
def iX9_aloneBy : List (Nat × Instr) := [(0, .iconst 0), (1, .istore 4), (3, .iconst 0), (4, .istore 5), (6, .iload 5), (8, .bipush 80), (10, .if_icmp .ge 49), (13, .iload 4), (15, .aload_n 0), (16, .iload_n 2), (17, .iload_n 3), (18, .aload_n 0), (19, .getfield 7), (22, .iload 5), (24, .iaload), (25, .aload_n 0), (26, .getfield 7), (29, .bipush 80), (31, .iload 5), (33, .iadd), (34, .iaload), (35, .iconst 0), (36, .invokevirtual 201), (39, .iconst 1), (40, .iload_n 1), (41, .ishl), (42, .if_icmp .ne 7), (45, .iconst 1), (46, .goto 4), (49, .iconst 0), (50, .iadd), (51, .istore 4), (53, .iinc 5 1), (56, .goto (-50)), (59, .iload 4), (61, .ireturn)]
theorem qX9_aloneBy : gDec mX9_aloneBy.2.1 iX9_aloneBy := by unfold gDec; decide +kernel
abbrev mX9_share : gM := (yX9_share, cX9_share, 9, (some .int))
def iX9_share : List (Nat × Instr) := [(0, .aload_n 0), (1, .iload_n 1), (2, .invokevirtual 115), (5, .ifCond .eq 22), (8, .iload_n 2), (9, .iload_n 3), (10, .invokestatic 100), (13, .ifCond .eq 14), (16, .iload 4), (18, .i2l), (19, .lconst 0), (20, .lconst 1), (21, .invokestatic 84), (24, .ifCond .ne 5), (27, .iconst (-1)), (28, .ireturn), (29, .aload_n 0), (30, .iload_n 1), (31, .iload_n 2), (32, .iload_n 3), (33, .invokevirtual 214), (36, .istore 5), (38, .iload 5), (40, .istore 6), (42, .bipush 80), (44, .istore 7), (46, .iload 7), (48, .ifCond .le 21), (51, .iload 6), (53, .iload 7), (55, .irem), (56, .istore 8), (58, .iload 7), (60, .istore 6), (62, .iload 8), (64, .istore 7), (66, .goto (-20)), (69, .iload 4), (71, .ifCond .ne 11), (74, .iload 5), (76, .iload 6), (78, .idiv), (79, .goto 8), (82, .bipush 80), (84, .iload 6), (86, .idiv), (87, .ireturn)]
theorem qX9_share : gDec mX9_share.2.1 iX9_share := by unfold gDec; decide +kernel
abbrev mX9_ground : gM := (yX9_ground, cX9_ground, 5, (some .int))
def iX9_ground : List (Nat × Instr) := [(0, .aload_n 0), (1, .iload_n 1), (2, .invokevirtual 115), (5, .ifCond .eq 17), (8, .iload_n 2), (9, .i2l), (10, .ldc2_w 217), (13, .ldc2_w 219), (16, .invokestatic 84), (19, .ifCond .ne 5), (22, .iconst (-1)), (23, .ireturn), (24, .iload_n 2), (25, .ifCond .lt 25), (28, .aload_n 0), (29, .iload_n 1), (30, .iload_n 2), (31, .bipush 21), (33, .irem), (34, .iload_n 2), (35, .bipush 21), (37, .idiv), (38, .invokevirtual 214), (41, .ifCond .le 7), (44, .iconst 1), (45, .goto 4), (48, .iconst 0), (49, .ireturn), (50, .iconst 0), (51, .istore_n 3), (52, .iconst 0), (53, .istore 4), (55, .iload 4), (57, .sipush 441), (60, .if_icmp .ge 35), (63, .iload_n 3), (64, .aload_n 0), (65, .iload_n 1), (66, .iload 4), (68, .bipush 21), (70, .irem), (71, .iload 4), (73, .bipush 21), (75, .idiv), (76, .invokevirtual 214), (79, .ifCond .le 7), (82, .iconst 1), (83, .goto 4), (86, .iconst 0), (87, .iadd), (88, .istore_n 3), (89, .iinc 4 1), (92, .goto (-37)), (95, .iload_n 3), (96, .ireturn)]
theorem qX9_ground : gDec mX9_ground.2.1 iX9_ground := by unfold gDec; decide +kernel
abbrev mX9_fewestOf : gM := (yX9_fewestOf, cX9_fewestOf, 9, (some .int))
def iX9_fewestOf : List (Nat × Instr) := [(0, .iconst 0), (1, .istore 4), (3, .iconst 0), (4, .istore 5), (6, .iload 5), (8, .bipush 80), (10, .if_icmp .ge 61), (13, .aload_n 0), (14, .iload_n 2), (15, .iload_n 3), (16, .aload_n 0), (17, .getfield 7), (20, .iload 5), (22, .iaload), (23, .aload_n 0), (24, .getfield 7), (27, .bipush 80), (29, .iload 5), (31, .iadd), (32, .iaload), (33, .iconst 0), (34, .invokevirtual 201), (37, .istore 6), (39, .iload 6), (41, .ifCond .eq 24), (44, .iload 6), (46, .iload_n 1), (47, .iconst (-1)), (48, .ixor), (49, .iand), (50, .ifCond .ne 15), (53, .aload_n 0), (54, .getfield 49), (57, .iload 4), (59, .iload 6), (61, .iastore), (62, .iinc 4 1), (65, .iinc 5 1), (68, .goto (-62)), (71, .aload_n 0), (72, .getfield 52), (75, .iconst 0), (76, .iconst 0), (77, .iastore), (78, .iconst 1), (79, .istore 5), (81, .iload 5), (83, .iload_n 1), (84, .if_icmp .gt 123), (87, .aload_n 0), (88, .getfield 52), (91, .iload 5), (93, .bipush 99), (95, .iastore), (96, .iload 5), (98, .iload_n 1), (99, .iconst (-1)), (100, .ixor), (101, .iand), (102, .ifCond .ne 99), (105, .iload 5), (107, .iload 5), (109, .ineg), (110, .iand), (111, .istore 6), (113, .iconst 0), (114, .istore 7), (116, .iload 7), (118, .iload 4), (120, .if_icmp .ge 81), (123, .iload 5), (125, .aload_n 0), (126, .getfield 49), (129, .iload 7), (131, .iaload), (132, .iconst (-1)), (133, .ixor), (134, .iand), (135, .istore 8), (137, .aload_n 0), (138, .getfield 52), (141, .iload 5), (143, .aload_n 0), (144, .getfield 49), (147, .iload 7), (149, .iaload), (150, .iload 6), (152, .iand), (153, .ifCond .eq 34), (156, .aload_n 0), (157, .getfield 52), (160, .iload 8), (162, .iaload), (163, .iconst 1), (164, .iadd), (165, .aload_n 0), (166, .getfield 52), (169, .iload 5), (171, .iaload), (172, .if_icmp .ge 15), (175, .aload_n 0), (176, .getfield 52), (179, .iload 8), (181, .iaload), (182, .iconst 1), (183, .iadd), (184, .goto 10), (187, .aload_n 0), (188, .getfield 52), (191, .iload 5), (193, .iaload), (194, .iastore), (195, .iinc 7 1), (198, .goto (-82)), (201, .iinc 5 1), (204, .goto (-123)), (207, .aload_n 0), (208, .getfield 52), (211, .iload_n 1), (212, .iaload), (213, .ireturn)]
theorem qX9_fewestOf : gDec mX9_fewestOf.2.1 iX9_fewestOf := by unfold gDec; decide +kernel
abbrev mX9_isSet : gM := (yX9_isSet, cX9_isSet, 2, (some .boolean))
def iX9_isSet : List (Nat × Instr) := [(0, .iload_n 1), (1, .i2l), (2, .lconst 1), (3, .iconst 1), (4, .aload_n 0), (5, .getfield 88), (8, .ishl), (9, .iconst 1), (10, .isub), (11, .i2l), (12, .invokestatic 84), (15, .ireturn)]
theorem qX9_isSet : gDec mX9_isSet.2.1 iX9_isSet := by unfold gDec; decide +kernel
abbrev mX9_fewest : gM := (yX9_fewest, cX9_fewest, 5, (some .int))
def iX9_fewest : List (Nat × Instr) := [(0, .aload_n 0), (1, .iload_n 1), (2, .invokevirtual 221), (5, .ifCond .eq 11), (8, .iload_n 2), (9, .iload_n 3), (10, .invokestatic 100), (13, .ifCond .ne 5), (16, .iconst (-1)), (17, .ireturn), (18, .aload_n 0), (19, .iload_n 1), (20, .iload_n 2), (21, .iload_n 3), (22, .invokevirtual 224), (25, .istore 4), (27, .iload 4), (29, .bipush 80), (31, .if_icmp .le 8), (34, .bipush (-4)), (36, .goto 5), (39, .iload 4), (41, .ireturn)]
theorem qX9_fewest : gDec mX9_fewest.2.1 iX9_fewest := by unfold gDec; decide +kernel
abbrev mX9_size : gM := (yX9_size, cX9_size, 1, (some .int))
def iX9_size : List (Nat × Instr) := [(0, .iload_n 0), (1, .ifCond .ge 8), (4, .iload_n 0), (5, .ineg), (6, .goto 4), (9, .iload_n 0), (10, .ireturn)]
theorem qX9_size : gDec mX9_size.2.1 iX9_size := by unfold gDec; decide +kernel
abbrev mX9_aside : gM := (yX9_aside, cX9_aside, 9, (some .int))
def iX9_aside : List (Nat × Instr) := [(0, .aload_n 0), (1, .iload_n 1), (2, .invokevirtual 221), (5, .ifCond .eq 24), (8, .iload_n 2), (9, .iload_n 3), (10, .invokestatic 100), (13, .ifCond .eq 16), (16, .iload 4), (18, .i2l), (19, .lconst 1), (20, .ldc2_w 96), (23, .invokestatic 84), (26, .ifCond .ne 5), (29, .iconst (-1)), (30, .ireturn), (31, .iconst 0), (32, .istore 5), (34, .iload 5), (36, .bipush 7), (38, .if_icmp .ge 83), (41, .iconst 0), (42, .istore 6), (44, .iload 6), (46, .sipush 441), (49, .if_icmp .ge 66), (52, .iload 6), (54, .bipush 21), (56, .irem), (57, .istore 7), (59, .iload 6), (61, .bipush 21), (63, .idiv), (64, .istore 8), (66, .iload 7), (68, .iload_n 2), (69, .isub), (70, .invokestatic 227), (73, .iload 8), (75, .iload_n 3), (76, .isub), (77, .invokestatic 227), (80, .iadd), (81, .iload 5), (83, .if_icmp .ne 26), (86, .aload_n 0), (87, .iload_n 1), (88, .iload 7), (90, .iload 8), (92, .invokevirtual 224), (95, .iload 4), (97, .if_icmp .gt 12), (100, .bipush 100), (102, .iload 7), (104, .imul), (105, .iload 8), (107, .iadd), (108, .ireturn), (109, .iinc 6 1), (112, .goto (-68)), (115, .iinc 5 1), (118, .goto (-84)), (121, .bipush (-4)), (123, .ireturn)]
theorem qX9_aside : gDec mX9_aside.2.1 iX9_aside := by unfold gDec; decide +kernel
abbrev mX9_meant : gM := (yX9_meant, cX9_meant, 4, (some .int))
def iX9_meant : List (Nat × Instr) := [(0, .iload_n 1), (1, .i2l), (2, .iload_n 2), (3, .i2l), (4, .invokestatic 197), (7, .ifCond .eq 21), (10, .iload_n 3), (11, .i2l), (12, .lconst 0), (13, .iconst 1), (14, .aload_n 0), (15, .getfield 88), (18, .ishl), (19, .iconst 1), (20, .isub), (21, .i2l), (22, .invokestatic 84), (25, .ifCond .ne 5), (28, .iconst (-1)), (29, .ireturn), (30, .aload_n 0), (31, .getfield 182), (34, .iconst 4), (35, .if_icmp .ne 6), (38, .bipush (-3)), (40, .ireturn), (41, .aload_n 0), (42, .getfield 37), (45, .iconst 3), (46, .aload_n 0), (47, .getfield 182), (50, .imul), (51, .iload_n 1), (52, .iastore), (53, .aload_n 0), (54, .getfield 37), (57, .iconst 3), (58, .aload_n 0), (59, .getfield 182), (62, .imul), (63, .iconst 1), (64, .iadd), (65, .iload_n 2), (66, .iastore), (67, .aload_n 0), (68, .getfield 37), (71, .iconst 3), (72, .aload_n 0), (73, .getfield 182), (76, .imul), (77, .iconst 2), (78, .iadd), (79, .iload_n 3), (80, .iastore), (81, .aload_n 0), (82, .dup), (83, .getfield 182), (86, .iconst 1), (87, .iadd), (88, .putfield 182), (91, .aload_n 0), (92, .getfield 182), (95, .ireturn)]
theorem qX9_meant : gDec mX9_meant.2.1 iX9_meant := by unfold gDec; decide +kernel
abbrev mX9_stood : gM := (yX9_stood, cX9_stood, 7, (some .int))
def iX9_stood : List (Nat × Instr) := [(0, .iload_n 1), (1, .i2l), (2, .lconst 0), (3, .ldc2_w 230), (6, .invokestatic 84), (9, .ifCond .ne 5), (12, .iconst (-1)), (13, .ireturn), (14, .iconst 0), (15, .istore_n 2), (16, .bipush (-4)), (18, .istore_n 3), (19, .sipush 440), (22, .istore 4), (24, .iload 4), (26, .ifCond .lt 116), (29, .iconst 1), (30, .istore 5), (32, .iconst 0), (33, .istore 6), (35, .iload 6), (37, .aload_n 0), (38, .getfield 182), (41, .if_icmp .ge 70), (44, .iload 5), (46, .ifCond .eq 56), (49, .aload_n 0), (50, .iload 4), (52, .bipush 21), (54, .irem), (55, .iload 4), (57, .bipush 21), (59, .idiv), (60, .aload_n 0), (61, .getfield 37), (64, .iconst 3), (65, .iload 6), (67, .imul), (68, .iaload), (69, .aload_n 0), (70, .getfield 37), (73, .iconst 3), (74, .iload 6), (76, .imul), (77, .iconst 1), (78, .iadd), (79, .iaload), (80, .iconst 0), (81, .invokevirtual 201), (84, .aload_n 0), (85, .getfield 37), (88, .iconst 3), (89, .iload 6), (91, .imul), (92, .iconst 2), (93, .iadd), (94, .iaload), (95, .if_icmp .ne 7), (98, .iconst 1), (99, .goto 4), (102, .iconst 0), (103, .istore 5), (105, .iinc 6 1), (108, .goto (-73)), (111, .iload_n 2), (112, .iload 5), (114, .ifCond .eq 7), (117, .iconst 1), (118, .goto 4), (121, .iconst 0), (122, .iadd), (123, .istore_n 2), (124, .iload 5), (126, .ifCond .eq 8), (129, .iload 4), (131, .goto 4), (134, .iload_n 3), (135, .istore_n 3), (136, .iinc 4 (-1)), (139, .goto (-115)), (142, .iload_n 1), (143, .ifCond .ne 7), (146, .iload_n 2), (147, .goto 28), (150, .iload_n 3), (151, .ifCond .ge 8), (154, .bipush (-4)), (156, .goto 19), (159, .iload_n 1), (160, .iconst 1), (161, .if_icmp .ne 10), (164, .iload_n 3), (165, .bipush 21), (167, .irem), (168, .goto 7), (171, .iload_n 3), (172, .bipush 21), (174, .idiv), (175, .ireturn)]
theorem qX9_stood : gDec mX9_stood.2.1 iX9_stood := by unfold gDec; decide +kernel
abbrev mX9_stall : gM := (yX9_stall, cX9_stall, 3, (some .int))
def iX9_stall : List (Nat × Instr) := [(0, .iload_n 1), (1, .iload_n 2), (2, .invokestatic 100), (5, .ifCond .ne 5), (8, .iconst (-1)), (9, .ireturn), (10, .aload_n 0), (11, .getfield 179), (14, .bipush 8), (16, .if_icmp .ne 6), (19, .bipush (-3)), (21, .ireturn), (22, .aload_n 0), (23, .getfield 31), (26, .aload_n 0), (27, .getfield 179), (30, .iload_n 1), (31, .iastore), (32, .aload_n 0), (33, .getfield 34), (36, .aload_n 0), (37, .getfield 179), (40, .iload_n 2), (41, .iastore), (42, .aload_n 0), (43, .dup), (44, .getfield 179), (47, .iconst 1), (48, .iadd), (49, .putfield 179), (52, .aload_n 0), (53, .getfield 179), (56, .iconst 1), (57, .isub), (58, .ireturn)]
theorem qX9_stall : gDec mX9_stall.2.1 iX9_stall := by unfold gDec; decide +kernel
abbrev mX9_metOn : gM := (yX9_metOn, cX9_metOn, 14, (some .int))
def iX9_metOn : List (Nat × Instr) := [(0, .iconst 0), (1, .istore 6), (3, .bipush (-4)), (5, .istore 7), (7, .iconst 0), (8, .istore 8), (10, .iconst 0), (11, .istore 9), (13, .iload 9), (15, .iload_n 1), (16, .if_icmp .ge 138), (19, .aload_n 0), (20, .getfield 31), (23, .aload_n 0), (24, .getfield 55), (27, .iload 9), (29, .iaload), (30, .iaload), (31, .istore 10), (33, .aload_n 0), (34, .getfield 34), (37, .aload_n 0), (38, .getfield 55), (41, .iload 9), (43, .iaload), (44, .iaload), (45, .istore 11), (47, .aload_n 0), (48, .iload_n 2), (49, .iload_n 3), (50, .iload 4), (52, .iload 5), (54, .iload 10), (56, .iload 11), (58, .aload_n 0), (59, .getfield 13), (62, .iconst 5), (63, .iload 9), (65, .imul), (66, .iconst 2), (67, .iadd), (68, .iaload), (69, .invokevirtual 185), (72, .ifCond .eq 76), (75, .iload 10), (77, .iload_n 2), (78, .isub), (79, .iload 4), (81, .imul), (82, .iload 11), (84, .iload_n 3), (85, .isub), (86, .iload 5), (88, .imul), (89, .iadd), (90, .istore 12), (92, .iload 6), (94, .iconst 1), (95, .iload 9), (97, .ishl), (98, .ior), (99, .istore 6), (101, .iload 7), (103, .ifCond .lt 10), (106, .iload 12), (108, .iload 8), (110, .if_icmp .ge 7), (113, .iconst 1), (114, .goto 4), (117, .iconst 0), (118, .istore 13), (120, .iload 13), (122, .ifCond .eq 8), (125, .iload 9), (127, .goto 5), (130, .iload 7), (132, .istore 7), (134, .iload 13), (136, .ifCond .eq 8), (139, .iload 12), (141, .goto 5), (144, .iload 8), (146, .istore 8), (148, .iinc 9 1), (151, .goto (-138)), (154, .aload_n 0), (155, .getfield 22), (158, .iconst 0), (159, .iaload), (160, .ifCond .eq 8), (163, .iload 7), (165, .ifCond .ge 8), (168, .iload 6), (170, .goto 7), (173, .iconst 1), (174, .iload 7), (176, .ishl), (177, .ireturn)]
theorem qX9_metOn : gDec mX9_metOn.2.1 iX9_metOn := by unfold gDec; decide +kernel
abbrev mX9_isClear : gM := (yX9_isClear, cX9_isClear, 7, (some .boolean))
def iX9_isClear : List (Nat × Instr) := [(0, .iconst 0), (1, .istore 4), (3, .iconst 0), (4, .istore 5), (6, .iload 5), (8, .bipush 80), (10, .if_icmp .ge 54), (13, .aload_n 0), (14, .iload_n 1), (15, .iload_n 2), (16, .iload_n 3), (17, .aload_n 0), (18, .getfield 7), (21, .iload 5), (23, .iaload), (24, .aload_n 0), (25, .getfield 7), (28, .bipush 80), (30, .iload 5), (32, .iadd), (33, .iaload), (34, .invokevirtual 232), (37, .istore 6), (39, .iload 4), (41, .iload 6), (43, .invokestatic 208), (46, .ifCond .eq 8), (49, .iload 6), (51, .goto 4), (54, .iconst 0), (55, .ior), (56, .istore 4), (58, .iinc 5 1), (61, .goto (-55)), (64, .iload 4), (66, .iconst 1), (67, .iload_n 1), (68, .ishl), (69, .iconst 1), (70, .isub), (71, .if_icmp .ne 7), (74, .iconst 1), (75, .goto 4), (78, .iconst 0), (79, .ireturn)]
theorem qX9_isClear : gDec mX9_isClear.2.1 iX9_isClear := by unfold gDec; decide +kernel
abbrev mX9_lays : gM := (yX9_lays, cX9_lays, 7, (some .boolean))
def iX9_lays : List (Nat × Instr) := [(0, .iload_n 1), (1, .istore_n 3), (2, .iconst 1), (3, .istore 4), (5, .iload_n 2), (6, .iconst 1), (7, .isub), (8, .istore 5), (10, .iload 5), (12, .ifCond .lt 98), (15, .aload_n 0), (16, .getfield 55), (19, .iload 5), (21, .iload_n 3), (22, .bipush 8), (24, .irem), (25, .iastore), (26, .iload_n 3), (27, .bipush 8), (29, .idiv), (30, .istore_n 3), (31, .iload 4), (33, .ifCond .eq 21), (36, .aload_n 0), (37, .getfield 55), (40, .iload 5), (42, .iaload), (43, .aload_n 0), (44, .getfield 179), (47, .if_icmp .ge 7), (50, .iconst 1), (51, .goto 4), (54, .iconst 0), (55, .istore 4), (57, .iload 5), (59, .iconst 1), (60, .iadd), (61, .istore 6), (63, .iload 6), (65, .iload_n 2), (66, .if_icmp .ge 38), (69, .iload 4), (71, .ifCond .eq 24), (74, .aload_n 0), (75, .getfield 55), (78, .iload 6), (80, .iaload), (81, .aload_n 0), (82, .getfield 55), (85, .iload 5), (87, .iaload), (88, .if_icmp .eq 7), (91, .iconst 1), (92, .goto 4), (95, .iconst 0), (96, .istore 4), (98, .iinc 6 1), (101, .goto (-38)), (104, .iinc 5 (-1)), (107, .goto (-97)), (110, .iload 4), (112, .ireturn)]
theorem qX9_lays : gDec mX9_lays.2.1 iX9_lays := by unfold gDec; decide +kernel
abbrev mX9_market : gM := (yX9_market, cX9_market, 10, (some .int))
def iX9_market : List (Nat × Instr) := [(0, .iload_n 1), (1, .i2l), (2, .lconst 1), (3, .ldc2_w 111), (6, .invokestatic 84), (9, .ifCond .eq 27), (12, .iload_n 2), (13, .iload_n 3), (14, .invokestatic 100), (17, .ifCond .eq 19), (20, .iload 4), (22, .i2l), (23, .ldc2_w 217), (26, .iload_n 1), (27, .iconst 1), (28, .isub), (29, .i2l), (30, .invokestatic 84), (33, .ifCond .ne 5), (36, .iconst (-1)), (37, .ireturn), (38, .aload_n 0), (39, .getfield 88), (42, .iload_n 1), (43, .if_icmp .lt 11), (46, .aload_n 0), (47, .getfield 179), (50, .iload_n 1), (51, .if_icmp .ge 6), (54, .bipush (-2)), (56, .ireturn), (57, .bipush (-4)), (59, .istore 5), (61, .iconst 0), (62, .istore 6), (64, .iconst 0), (65, .istore 7), (67, .iload 7), (69, .iconst 1), (70, .iconst 3), (71, .iload_n 1), (72, .imul), (73, .ishl), (74, .if_icmp .ge 107), (77, .aload_n 0), (78, .iload 7), (80, .iload_n 1), (81, .invokevirtual 235), (84, .ifCond .eq 91), (87, .iconst 0), (88, .istore 8), (90, .iconst 0), (91, .istore 9), (93, .iload 9), (95, .iload_n 1), (96, .if_icmp .ge 49), (99, .iload 8), (101, .aload_n 0), (102, .getfield 31), (105, .aload_n 0), (106, .getfield 55), (109, .iload 9), (111, .iaload), (112, .iaload), (113, .iload_n 2), (114, .isub), (115, .invokestatic 227), (118, .aload_n 0), (119, .getfield 34), (122, .aload_n 0), (123, .getfield 55), (126, .iload 9), (128, .iaload), (129, .iaload), (130, .iload_n 3), (131, .isub), (132, .invokestatic 227), (135, .iadd), (136, .iadd), (137, .istore 8), (139, .iinc 9 1), (142, .goto (-49)), (145, .iload 5), (147, .ifCond .lt 10), (150, .iload 8), (152, .iload 6), (154, .if_icmp .ge 21), (157, .aload_n 0), (158, .iload_n 1), (159, .iload_n 2), (160, .iload_n 3), (161, .invokevirtual 238), (164, .ifCond .eq 11), (167, .iload 7), (169, .istore 5), (171, .iload 8), (173, .istore 6), (175, .iinc 7 1), (178, .goto (-111)), (181, .iload 5), (183, .ifCond .ge 6), (186, .bipush (-4)), (188, .ireturn), (189, .aload_n 0), (190, .iload 5), (192, .iload_n 1), (193, .invokevirtual 235), (196, .pop), (197, .iload 4), (199, .ifCond .ge 8), (202, .iload 6), (204, .goto 10), (207, .aload_n 0), (208, .getfield 55), (211, .iload 4), (213, .iaload), (214, .ireturn)]
theorem qX9_market : gDec mX9_market.2.1 iX9_market := by unfold gDec; decide +kernel
abbrev mX9_clear : gM := (yX9_clear, cX9_clear, 2, (some .int))
def iX9_clear : List (Nat × Instr) := [(0, .aload_n 0), (1, .getfield 179), (4, .aload_n 0), (5, .getfield 182), (8, .iadd), (9, .aload_n 0), (10, .getfield 176), (13, .iadd), (14, .istore_n 1), (15, .aload_n 0), (16, .iconst 0), (17, .putfield 179), (20, .aload_n 0), (21, .iconst 0), (22, .putfield 182), (25, .aload_n 0), (26, .iconst 0), (27, .putfield 176), (30, .iload_n 1), (31, .ireturn)]
theorem qX9_clear : gDec mX9_clear.2.1 iX9_clear := by unfold gDec; decide +kernel
abbrev mX9_lay : gM := (yX9_lay, cX9_lay, 4, (some .int))
def iX9_lay : List (Nat × Instr) := [(0, .iconst 0), (1, .istore_n 3), (2, .iload_n 3), (3, .aload_n 1), (4, .arraylength), (5, .if_icmp .ge 20), (8, .aload_n 0), (9, .getfield 58), (12, .iload_n 2), (13, .iload_n 3), (14, .iadd), (15, .aload_n 1), (16, .iload_n 3), (17, .iaload), (18, .iastore), (19, .iinc 3 1), (22, .goto (-20)), (25, .iload_n 2), (26, .aload_n 1), (27, .arraylength), (28, .iadd), (29, .ireturn)]
theorem qX9_lay : gDec mX9_lay.2.1 iX9_lay := by unfold gDec; decide +kernel
abbrev mX9_gives : gM := (yX9_gives, cX9_gives, 4, (some .int))
def iX9_gives : List (Nat × Instr) := [(0, .iconst 0), (1, .istore_n 3), (2, .iload_n 3), (3, .aload_n 2), (4, .arraylength), (5, .if_icmp .ge 20), (8, .aload_n 2), (9, .iload_n 3), (10, .aload_n 0), (11, .getfield 58), (14, .iload_n 1), (15, .iload_n 3), (16, .iadd), (17, .iaload), (18, .iastore), (19, .iinc 3 1), (22, .goto (-20)), (25, .iload_n 1), (26, .aload_n 2), (27, .arraylength), (28, .iadd), (29, .ireturn)]
theorem qX9_gives : gDec mX9_gives.2.1 iX9_gives := by unfold gDec; decide +kernel
abbrev mX9_image : gM := (yX9_image, cX9_image, 2, (some .int))
def iX9_image : List (Nat × Instr) := [(0, .aload_n 0), (1, .aload_n 0), (2, .getfield 13), (5, .iconst 0), (6, .invokevirtual 242), (9, .istore_n 1), (10, .aload_n 0), (11, .aload_n 0), (12, .getfield 16), (15, .iload_n 1), (16, .invokevirtual 242), (19, .istore_n 1), (20, .aload_n 0), (21, .aload_n 0), (22, .getfield 19), (25, .iload_n 1), (26, .invokevirtual 242), (29, .istore_n 1), (30, .aload_n 0), (31, .aload_n 0), (32, .getfield 22), (35, .iload_n 1), (36, .invokevirtual 242), (39, .istore_n 1), (40, .aload_n 0), (41, .aload_n 0), (42, .getfield 25), (45, .iload_n 1), (46, .invokevirtual 242), (49, .istore_n 1), (50, .aload_n 0), (51, .aload_n 0), (52, .getfield 28), (55, .iload_n 1), (56, .invokevirtual 242), (59, .istore_n 1), (60, .aload_n 0), (61, .aload_n 0), (62, .getfield 31), (65, .iload_n 1), (66, .invokevirtual 242), (69, .istore_n 1), (70, .aload_n 0), (71, .aload_n 0), (72, .getfield 34), (75, .iload_n 1), (76, .invokevirtual 242), (79, .istore_n 1), (80, .aload_n 0), (81, .aload_n 0), (82, .getfield 37), (85, .iload_n 1), (86, .invokevirtual 242), (89, .istore_n 1), (90, .aload_n 0), (91, .getfield 58), (94, .iload_n 1), (95, .aload_n 0), (96, .getfield 88), (99, .iastore), (100, .aload_n 0), (101, .getfield 58), (104, .iload_n 1), (105, .iconst 1), (106, .iadd), (107, .aload_n 0), (108, .getfield 91), (111, .iastore), (112, .aload_n 0), (113, .getfield 58), (116, .iload_n 1), (117, .iconst 2), (118, .iadd), (119, .aload_n 0), (120, .getfield 176), (123, .iastore), (124, .aload_n 0), (125, .getfield 58), (128, .iload_n 1), (129, .iconst 3), (130, .iadd), (131, .aload_n 0), (132, .getfield 179), (135, .iastore), (136, .aload_n 0), (137, .getfield 58), (140, .iload_n 1), (141, .iconst 4), (142, .iadd), (143, .aload_n 0), (144, .getfield 182), (147, .iastore), (148, .aload_n 0), (149, .iconst 1), (150, .putfield 246), (153, .iconst 1), (154, .ireturn)]
theorem qX9_image : gDec mX9_image.2.1 iX9_image := by unfold gDec; decide +kernel
abbrev mX9_restore : gM := (yX9_restore, cX9_restore, 2, (some .int))
def iX9_restore : List (Nat × Instr) := [(0, .aload_n 0), (1, .getfield 246), (4, .ifCond .ne 6), (7, .bipush (-4)), (9, .ireturn), (10, .aload_n 0), (11, .iconst 0), (12, .aload_n 0), (13, .getfield 13), (16, .invokevirtual 249), (19, .istore_n 1), (20, .aload_n 0), (21, .iload_n 1), (22, .aload_n 0), (23, .getfield 16), (26, .invokevirtual 249), (29, .istore_n 1), (30, .aload_n 0), (31, .iload_n 1), (32, .aload_n 0), (33, .getfield 19), (36, .invokevirtual 249), (39, .istore_n 1), (40, .aload_n 0), (41, .iload_n 1), (42, .aload_n 0), (43, .getfield 22), (46, .invokevirtual 249), (49, .istore_n 1), (50, .aload_n 0), (51, .iload_n 1), (52, .aload_n 0), (53, .getfield 25), (56, .invokevirtual 249), (59, .istore_n 1), (60, .aload_n 0), (61, .iload_n 1), (62, .aload_n 0), (63, .getfield 28), (66, .invokevirtual 249), (69, .istore_n 1), (70, .aload_n 0), (71, .iload_n 1), (72, .aload_n 0), (73, .getfield 31), (76, .invokevirtual 249), (79, .istore_n 1), (80, .aload_n 0), (81, .iload_n 1), (82, .aload_n 0), (83, .getfield 34), (86, .invokevirtual 249), (89, .istore_n 1), (90, .aload_n 0), (91, .iload_n 1), (92, .aload_n 0), (93, .getfield 37), (96, .invokevirtual 249), (99, .istore_n 1), (100, .aload_n 0), (101, .aload_n 0), (102, .getfield 58), (105, .iload_n 1), (106, .iaload), (107, .putfield 88), (110, .aload_n 0), (111, .aload_n 0), (112, .getfield 58), (115, .iload_n 1), (116, .iconst 1), (117, .iadd), (118, .iaload), (119, .putfield 91), (122, .aload_n 0), (123, .aload_n 0), (124, .getfield 58), (127, .iload_n 1), (128, .iconst 2), (129, .iadd), (130, .iaload), (131, .putfield 176), (134, .aload_n 0), (135, .aload_n 0), (136, .getfield 58), (139, .iload_n 1), (140, .iconst 3), (141, .iadd), (142, .iaload), (143, .putfield 179), (146, .aload_n 0), (147, .aload_n 0), (148, .getfield 58), (151, .iload_n 1), (152, .iconst 4), (153, .iadd), (154, .iaload), (155, .putfield 182), (158, .iconst 1), (159, .ireturn)]
theorem qX9_restore : gDec mX9_restore.2.1 iX9_restore := by unfold gDec; decide +kernel
abbrev mX9_isSheet : gM := (yX9_isSheet, cX9_isSheet, 1, (some .boolean))
def iX9_isSheet : List (Nat × Instr) := [(0, .iload_n 0), (1, .i2l), (2, .lconst 0), (3, .ldc2_w 109), (6, .invokestatic 84), (9, .ireturn)]
theorem qX9_isSheet : gDec mX9_isSheet.2.1 iX9_isSheet := by unfold gDec; decide +kernel
abbrev mX9_isLane : gM := (yX9_isLane, cX9_isLane, 1, (some .boolean))
def iX9_isLane : List (Nat × Instr) := [(0, .iload_n 0), (1, .i2l), (2, .lconst 0), (3, .ldc2_w 230), (6, .invokestatic 84), (9, .ireturn)]
theorem qX9_isLane : gDec mX9_isLane.2.1 iX9_isLane := by unfold gDec; decide +kernel
abbrev mX9_finds : gM := (yX9_finds, cX9_finds, 5, (some .int))
def iX9_finds : List (Nat × Instr) := [(0, .aload_n 0), (1, .getfield 61), (4, .iload_n 1), (5, .iaload), (6, .ifCond .ge 6), (9, .bipush (-11)), (11, .ireturn), (12, .aload_n 0), (13, .getfield 61), (16, .iload_n 1), (17, .iaload), (18, .iload_n 2), (19, .if_icmp .eq 6), (22, .bipush (-12)), (24, .ireturn), (25, .iload_n 3), (26, .ifCond .lt 20), (29, .iload_n 3), (30, .i2l), (31, .iload 4), (33, .i2l), (34, .ladd), (35, .aload_n 0), (36, .getfield 64), (39, .iload_n 1), (40, .iaload), (41, .i2l), (42, .lcmp), (43, .ifCond .le 8), (46, .bipush (-13)), (48, .goto 4), (51, .iconst 0), (52, .ireturn)]
theorem qX9_finds : gDec mX9_finds.2.1 iX9_finds := by unfold gDec; decide +kernel
abbrev mX9_clears : gM := (yX9_clears, cX9_clears, 10, (some .int))
def iX9_clears : List (Nat × Instr) := [(0, .aload_n 0), (1, .iload_n 1), (2, .invokevirtual 127), (5, .ifCond .eq 30), (8, .iload_n 2), (9, .invokestatic 253), (12, .ifCond .eq 23), (15, .iload_n 3), (16, .invokestatic 256), (19, .ifCond .eq 16), (22, .iload 5), (24, .i2l), (25, .lconst 1), (26, .ldc2_w 259), (29, .invokestatic 84), (32, .ifCond .ne 5), (35, .iconst (-1)), (36, .ireturn), (37, .aload_n 0), (38, .iload_n 2), (39, .iload_n 3), (40, .iload 4), (42, .iconst 2), (43, .iload 5), (45, .imul), (46, .invokevirtual 261), (49, .istore 6), (51, .iload 6), (53, .ifCond .ge 6), (56, .iload 6), (58, .ireturn), (59, .bipush 24), (61, .iload_n 2), (62, .imul), (63, .iload 4), (65, .iadd), (66, .istore 7), (68, .iconst 0), (69, .istore 8), (71, .iload 8), (73, .iload 5), (75, .if_icmp .ge 44), (78, .aload_n 0), (79, .getfield 67), (82, .iload 7), (84, .iconst 2), (85, .iload 8), (87, .imul), (88, .iadd), (89, .laload), (90, .aload_n 0), (91, .getfield 67), (94, .iload 7), (96, .iconst 2), (97, .iload 8), (99, .imul), (100, .iadd), (101, .iconst 1), (102, .iadd), (103, .laload), (104, .invokestatic 197), (107, .ifCond .ne 6), (110, .bipush (-2)), (112, .ireturn), (113, .iinc 8 1), (116, .goto (-45)), (119, .iconst 0), (120, .istore 8), (122, .iconst 0), (123, .istore 9), (125, .iload 9), (127, .iload 5), (129, .if_icmp .ge 70), (132, .iload 8), (134, .aload_n 0), (135, .aload_n 0), (136, .getfield 16), (139, .iload_n 1), (140, .iaload), (141, .aload_n 0), (142, .getfield 19), (145, .iload_n 1), (146, .iaload), (147, .aload_n 0), (148, .getfield 67), (151, .iload 7), (153, .iconst 2), (154, .iload 9), (156, .imul), (157, .iadd), (158, .laload), (159, .l2i), (160, .aload_n 0), (161, .getfield 67), (164, .iload 7), (166, .iconst 2), (167, .iload 9), (169, .imul), (170, .iadd), (171, .iconst 1), (172, .iadd), (173, .laload), (174, .l2i), (175, .iconst 0), (176, .invokevirtual 201), (179, .invokestatic 208), (182, .ifCond .eq 7), (185, .iconst 1), (186, .goto 4), (189, .iconst 0), (190, .iadd), (191, .istore 8), (193, .iinc 9 1), (196, .goto (-71)), (199, .iload 8), (201, .ireturn)]
theorem qX9_clears : gDec mX9_clears.2.1 iX9_clears := by unfold gDec; decide +kernel
abbrev mX9_sheet : gM := (yX9_sheet, cX9_sheet, 5, (some .int))
def iX9_sheet : List (Nat × Instr) := [(0, .iload_n 1), (1, .invokestatic 253), (4, .ifCond .eq 16), (7, .iload_n 2), (8, .invokestatic 256), (11, .ifCond .eq 9), (14, .iload_n 3), (15, .bipush 24), (17, .if_icmp .le 5), (20, .iconst (-1)), (21, .ireturn), (22, .iload_n 3), (23, .ifCond .ge 6), (26, .bipush (-14)), (28, .ireturn), (29, .aload_n 0), (30, .getfield 61), (33, .iload_n 1), (34, .iload_n 2), (35, .iastore), (36, .aload_n 0), (37, .getfield 64), (40, .iload_n 1), (41, .iload_n 3), (42, .iastore), (43, .iconst 0), (44, .istore 4), (46, .iload 4), (48, .bipush 24), (50, .if_icmp .ge 22), (53, .aload_n 0), (54, .getfield 67), (57, .bipush 24), (59, .iload_n 1), (60, .imul), (61, .iload 4), (63, .iadd), (64, .lconst 0), (65, .lastore), (66, .iinc 4 1), (69, .goto (-23)), (72, .iload_n 3), (73, .ireturn)]
theorem qX9_sheet : gDec mX9_sheet.2.1 iX9_sheet := by unfold gDec; decide +kernel
abbrev mX9_drop : gM := (yX9_drop, cX9_drop, 2, (some .int))
def iX9_drop : List (Nat × Instr) := [(0, .iload_n 1), (1, .invokestatic 253), (4, .ifCond .ne 5), (7, .iconst (-1)), (8, .ireturn), (9, .aload_n 0), (10, .getfield 61), (13, .iload_n 1), (14, .iaload), (15, .ifCond .ge 6), (18, .bipush (-11)), (20, .ireturn), (21, .aload_n 0), (22, .getfield 61), (25, .iload_n 1), (26, .iconst (-1)), (27, .iastore), (28, .aload_n 0), (29, .getfield 64), (32, .iload_n 1), (33, .iaload), (34, .ireturn)]
theorem qX9_drop : gDec mX9_drop.2.1 iX9_drop := by unfold gDec; decide +kernel
abbrev mX9_item : gM := (yX9_item, cX9_item, 7, (some .int))
def iX9_item : List (Nat × Instr) := [(0, .iload_n 1), (1, .invokestatic 253), (4, .ifCond .eq 10), (7, .iload_n 2), (8, .invokestatic 256), (11, .ifCond .ne 5), (14, .iconst (-1)), (15, .ireturn), (16, .aload_n 0), (17, .iload_n 1), (18, .iload_n 2), (19, .iload_n 3), (20, .iconst 1), (21, .invokevirtual 261), (24, .istore 6), (26, .iload 6), (28, .ifCond .ge 6), (31, .iload 6), (33, .ireturn), (34, .aload_n 0), (35, .getfield 67), (38, .bipush 24), (40, .iload_n 1), (41, .imul), (42, .iload_n 3), (43, .iadd), (44, .iload_n 2), (45, .ifCond .ne 11), (48, .lload 4), (50, .l2i), (51, .i2s), (52, .i2l), (53, .goto 17), (56, .iload_n 2), (57, .iconst 1), (58, .if_icmp .ne 10), (61, .lload 4), (63, .l2i), (64, .i2l), (65, .goto 5), (68, .lload 4), (70, .lastore), (71, .iconst 1), (72, .ireturn)]
theorem qX9_item : gDec mX9_item.2.1 iX9_item := by unfold gDec; decide +kernel
abbrev mX9_copy : gM := (yX9_copy, cX9_copy, 7, (some .int))
def iX9_copy : List (Nat × Instr) := [(0, .iload_n 1), (1, .invokestatic 253), (4, .ifCond .eq 10), (7, .iload_n 3), (8, .invokestatic 253), (11, .ifCond .ne 5), (14, .iconst (-1)), (15, .ireturn), (16, .aload_n 0), (17, .getfield 61), (20, .iload_n 1), (21, .iaload), (22, .ifCond .lt 12), (25, .aload_n 0), (26, .getfield 61), (29, .iload_n 3), (30, .iaload), (31, .ifCond .ge 6), (34, .bipush (-11)), (36, .ireturn), (37, .aload_n 0), (38, .getfield 61), (41, .iload_n 1), (42, .iaload), (43, .aload_n 0), (44, .getfield 61), (47, .iload_n 3), (48, .iaload), (49, .if_icmp .eq 6), (52, .bipush (-12)), (54, .ireturn), (55, .iload 5), (57, .ifCond .lt 38), (60, .aload_n 0), (61, .iload_n 1), (62, .aload_n 0), (63, .getfield 61), (66, .iload_n 1), (67, .iaload), (68, .iload_n 2), (69, .iload 5), (71, .invokevirtual 261), (74, .ifCond .lt 21), (77, .aload_n 0), (78, .iload_n 3), (79, .aload_n 0), (80, .getfield 61), (83, .iload_n 3), (84, .iaload), (85, .iload 4), (87, .iload 5), (89, .invokevirtual 261), (92, .ifCond .ge 6), (95, .bipush (-13)), (97, .ireturn), (98, .iconst 0), (99, .istore 6), (101, .iload 6), (103, .iload 5), (105, .if_icmp .ge 30), (108, .aload_n 0), (109, .getfield 71), (112, .iload 6), (114, .aload_n 0), (115, .getfield 67), (118, .bipush 24), (120, .iload_n 1), (121, .imul), (122, .iload_n 2), (123, .iadd), (124, .iload 6), (126, .iadd), (127, .laload), (128, .lastore), (129, .iinc 6 1), (132, .goto (-31)), (135, .iconst 0), (136, .istore 6), (138, .iload 6), (140, .iload 5), (142, .if_icmp .ge 31), (145, .aload_n 0), (146, .getfield 67), (149, .bipush 24), (151, .iload_n 3), (152, .imul), (153, .iload 4), (155, .iadd), (156, .iload 6), (158, .iadd), (159, .aload_n 0), (160, .getfield 71), (163, .iload 6), (165, .laload), (166, .lastore), (167, .iinc 6 1), (170, .goto (-32)), (173, .iload 5), (175, .ireturn)]
theorem qX9_copy : gDec mX9_copy.2.1 iX9_copy := by unfold gDec; decide +kernel
abbrev mJ6_numberOfTrailingZeros_0f7a4 : gM := (yJ6_numberOfTrailingZeros_0f7a4, cJ6_numberOfTrailingZeros_0f7a4, 2, (some .int))
def iJ6_numberOfTrailingZeros_0f7a4 : List (Nat × Instr) := [(0, .iload_n 0), (1, .iconst (-1)), (2, .ixor), (3, .iload_n 0), (4, .iconst 1), (5, .isub), (6, .iand), (7, .istore_n 0), (8, .iload_n 0), (9, .ifCond .gt 8), (12, .iload_n 0), (13, .bipush 32), (15, .iand), (16, .ireturn), (17, .iconst 1), (18, .istore_n 1), (19, .iload_n 0), (20, .ldc_w 264), (23, .if_icmp .le 11), (26, .iinc 1 16), (29, .iload_n 0), (30, .bipush 16), (32, .iushr), (33, .istore_n 0), (34, .iload_n 0), (35, .sipush 256), (38, .if_icmp .le 11), (41, .iinc 1 8), (44, .iload_n 0), (45, .bipush 8), (47, .iushr), (48, .istore_n 0), (49, .iload_n 0), (50, .bipush 16), (52, .if_icmp .le 10), (55, .iinc 1 4), (58, .iload_n 0), (59, .iconst 4), (60, .iushr), (61, .istore_n 0), (62, .iload_n 0), (63, .iconst 4), (64, .if_icmp .le 10), (67, .iinc 1 2), (70, .iload_n 0), (71, .iconst 2), (72, .iushr), (73, .istore_n 0), (74, .iload_n 1), (75, .iload_n 0), (76, .iconst 1), (77, .iushr), (78, .iadd), (79, .ireturn)]
theorem qJ6_numberOfTrailingZeros_0f7a4 : gDec mJ6_numberOfTrailingZeros_0f7a4.2.1 iJ6_numberOfTrailingZeros_0f7a4 := by unfold gDec; decide +kernel
abbrev mJ6_bitCount_0f7a4 : gM := (yJ6_bitCount_0f7a4, cJ6_bitCount_0f7a4, 1, (some .int))
def iJ6_bitCount_0f7a4 : List (Nat × Instr) := [(0, .iload_n 0), (1, .iload_n 0), (2, .iconst 1), (3, .iushr), (4, .ldc_w 265), (7, .iand), (8, .isub), (9, .istore_n 0), (10, .iload_n 0), (11, .ldc_w 266), (14, .iand), (15, .iload_n 0), (16, .iconst 2), (17, .iushr), (18, .ldc_w 266), (21, .iand), (22, .iadd), (23, .istore_n 0), (24, .iload_n 0), (25, .iload_n 0), (26, .iconst 4), (27, .iushr), (28, .iadd), (29, .ldc_w 267), (32, .iand), (33, .istore_n 0), (34, .iload_n 0), (35, .iload_n 0), (36, .bipush 8), (38, .iushr), (39, .iadd), (40, .istore_n 0), (41, .iload_n 0), (42, .iload_n 0), (43, .bipush 16), (45, .iushr), (46, .iadd), (47, .istore_n 0), (48, .iload_n 0), (49, .bipush 63), (51, .iand), (52, .ireturn)]
theorem qJ6_bitCount_0f7a4 : gDec mJ6_bitCount_0f7a4.2.1 iJ6_bitCount_0f7a4 := by unfold gDec; decide +kernel
abbrev mJ9_abs_0f7a4 : gM := (yJ9_abs_0f7a4, cJ9_abs_0f7a4, 1, (some .int))
def iJ9_abs_0f7a4 : List (Nat × Instr) := [(0, .iload_n 0), (1, .ifCond .ge 8), (4, .iload_n 0), (5, .ineg), (6, .goto 4), (9, .iload_n 0), (10, .ireturn)]
theorem qJ9_abs_0f7a4 : gDec mJ9_abs_0f7a4.2.1 iJ9_abs_0f7a4 := by unfold gDec; decide +kernel
abbrev mJ9_min_7cf53 : gM := (yJ9_min_7cf53, cJ9_min_7cf53, 2, (some .int))
def iJ9_min_7cf53 : List (Nat × Instr) := [(0, .iload_n 0), (1, .iload_n 1), (2, .if_icmp .gt 7), (5, .iload_n 0), (6, .goto 4), (9, .iload_n 1), (10, .ireturn)]
theorem qJ9_min_7cf53 : gDec mJ9_min_7cf53.2.1 iJ9_min_7cf53 := by unfold gDec; decide +kernel
theorem kX0_20_0 : gLV RX0 20 RX0 mX0_collect 5 := ⟨gTB_mem 580 (by decide +kernel) rfl, gTB_mem 582 (by decide +kernel) rfl, gTB_mem 10 (by decide +kernel) rfl, gTB_mem 52 (by decide +kernel) rfl, gTB_mem 583 (by decide +kernel) rfl, rfl, ⟨by decide, by decide, by decide +kernel⟩⟩
theorem kX0_24_0 : gLV RX0 24 RX0 mX0_goOnFrom 1 := ⟨gTB_mem 598 (by decide +kernel) rfl, gTB_mem 600 (by decide +kernel) rfl, gTB_mem 12 (by decide +kernel) rfl, gTB_mem 52 (by decide +kernel) rfl, gTB_mem 601 (by decide +kernel) rfl, rfl, ⟨by decide, by decide, by decide +kernel⟩⟩
theorem kX0_32_1 : gLV RX0 32 RX1 mX1_dx 1 := ⟨gTB_mem 584 (by decide +kernel) rfl, gTB_mem 585 (by decide +kernel) rfl, gTB_mem 586 (by decide +kernel) rfl, gTB_mem 47 (by decide +kernel) rfl, gTB_mem 587 (by decide +kernel) rfl, rfl, ⟨by decide, by decide, by decide +kernel⟩⟩
theorem kX0_36_1 : gLV RX0 36 RX1 mX1_dy 1 := ⟨gTB_mem 588 (by decide +kernel) rfl, gTB_mem 589 (by decide +kernel) rfl, gTB_mem 590 (by decide +kernel) rfl, gTB_mem 47 (by decide +kernel) rfl, gTB_mem 591 (by decide +kernel) rfl, rfl, ⟨by decide, by decide, by decide +kernel⟩⟩
theorem kX0_39_2 : gLV RX0 39 RX2 mX2_metBy 5 := ⟨gTB_mem 592 (by decide +kernel) rfl, gTB_mem 468 (by decide +kernel) rfl, gTB_mem 469 (by decide +kernel) rfl, gTB_mem 50 (by decide +kernel) rfl, gTB_mem 470 (by decide +kernel) rfl, rfl, ⟨by decide, by decide, by decide +kernel⟩⟩
theorem kX0_45_2 : gLV RX0 45 RX2 mX2_narrowed 4 := ⟨gTB_mem 593 (by decide +kernel) rfl, gTB_mem 495 (by decide +kernel) rfl, gTB_mem 496 (by decide +kernel) rfl, gTB_mem 50 (by decide +kernel) rfl, gTB_mem 497 (by decide +kernel) rfl, rfl, ⟨by decide, by decide, by decide +kernel⟩⟩
theorem kX0_49_0 : gLV RX0 49 RX0 mX0_note 1 := ⟨gTB_mem 594 (by decide +kernel) rfl, gTB_mem 596 (by decide +kernel) rfl, gTB_mem 11 (by decide +kernel) rfl, gTB_mem 52 (by decide +kernel) rfl, gTB_mem 597 (by decide +kernel) rfl, rfl, ⟨by decide, by decide, by decide +kernel⟩⟩
theorem kX1_20_2 : gLV RX1 20 RX2 mX2_meansJust 5 := ⟨gTB_mem 556 (by decide +kernel) rfl, gTB_mem 557 (by decide +kernel) rfl, gTB_mem 558 (by decide +kernel) rfl, gTB_mem 50 (by decide +kernel) rfl, gTB_mem 559 (by decide +kernel) rfl, rfl, ⟨by decide, by decide, by decide +kernel⟩⟩
theorem kX2_22_2 : gLV RX2 22 RX2 mX2_middle 3 := ⟨gTB_mem 476 (by decide +kernel) rfl, gTB_mem 311 (by decide +kernel) rfl, gTB_mem 312 (by decide +kernel) rfl, gTB_mem 50 (by decide +kernel) rfl, gTB_mem 313 (by decide +kernel) rfl, rfl, ⟨by decide, by decide, by decide +kernel⟩⟩
theorem kX2_26_2 : gLU RX2 26 RX2 ⟨"PointingArms$Field", "get", "(II)I"⟩ mX4_get 2 := ⟨gTB_mem 477 (by decide +kernel) rfl, gTB_mem 478 (by decide +kernel) rfl, gTB_mem 480 (by decide +kernel) rfl, gTB_mem 283 (by decide +kernel) rfl, gTB_mem 49 (by decide +kernel) rfl, gTB_mem 287 (by decide +kernel) rfl, rfl, ⟨by decide, by decide, by decide +kernel⟩, by decide +kernel⟩
theorem kX2_30_2 : gLU RX2 30 RX2 ⟨"PointingArms$Field", "size", "()I"⟩ mX4_size 0 := ⟨gTB_mem 471 (by decide +kernel) rfl, gTB_mem 418 (by decide +kernel) rfl, gTB_mem 420 (by decide +kernel) rfl, gTB_mem 421 (by decide +kernel) rfl, gTB_mem 49 (by decide +kernel) rfl, gTB_mem 422 (by decide +kernel) rfl, rfl, ⟨by decide, by decide, by decide +kernel⟩, by decide +kernel⟩
theorem kX2_34_2 : gLV RX2 34 RX2 mX2_isMet 6 := ⟨gTB_mem 472 (by decide +kernel) rfl, gTB_mem 473 (by decide +kernel) rfl, gTB_mem 474 (by decide +kernel) rfl, gTB_mem 50 (by decide +kernel) rfl, gTB_mem 475 (by decide +kernel) rfl, rfl, ⟨by decide, by decide, by decide +kernel⟩⟩
theorem kX2_38 : gLS RX2 38 mJ6_numberOfTrailingZeros_0f7a4 1 := ⟨gTB_mem 498 (by decide +kernel) rfl, gTB_mem 499 (by decide +kernel) rfl, gTB_mem 58 (by decide +kernel) rfl, gTB_mem 500 (by decide +kernel) rfl, ⟨by decide, by decide, by decide +kernel⟩⟩
theorem kX2_44_2 : gLV RX2 44 RX2 mX2_isAhead 5 := ⟨gTB_mem 502 (by decide +kernel) rfl, gTB_mem 504 (by decide +kernel) rfl, gTB_mem 6 (by decide +kernel) rfl, gTB_mem 50 (by decide +kernel) rfl, gTB_mem 505 (by decide +kernel) rfl, rfl, ⟨by decide, by decide, by decide +kernel⟩⟩
theorem kX3_30_3 : gLV RX3 30 RX3 mX3_bring 2 := ⟨gTB_mem 637 (by decide +kernel) rfl, gTB_mem 639 (by decide +kernel) rfl, gTB_mem 15 (by decide +kernel) rfl, gTB_mem 53 (by decide +kernel) rfl, gTB_mem 640 (by decide +kernel) rfl, rfl, ⟨by decide, by decide, by decide +kernel⟩⟩
theorem kX3_38_2 : gLU RX3 38 RX2 ⟨"PointingArms$Rows", "size", "()I"⟩ mX4_size 0 := ⟨gTB_mem 648 (by decide +kernel) rfl, gTB_mem 1151 (by decide +kernel) rfl, gTB_mem 1152 (by decide +kernel) rfl, gTB_mem 421 (by decide +kernel) rfl, gTB_mem 49 (by decide +kernel) rfl, gTB_mem 422 (by decide +kernel) rfl, rfl, ⟨by decide, by decide, by decide +kernel⟩, by decide +kernel⟩
theorem kX3_38_4 : gLV RX3 38 RX4 mX4_size 0 := ⟨gTB_mem 648 (by decide +kernel) rfl, gTB_mem 421 (by decide +kernel) rfl, gTB_mem 1153 (by decide +kernel) rfl, gTB_mem 49 (by decide +kernel) rfl, gTB_mem 422 (by decide +kernel) rfl, rfl, ⟨by decide, by decide, by decide +kernel⟩⟩
theorem kX3_44_3 : gLV RX3 44 RX3 mX3_choose 3 := ⟨gTB_mem 649 (by decide +kernel) rfl, gTB_mem 651 (by decide +kernel) rfl, gTB_mem 16 (by decide +kernel) rfl, gTB_mem 53 (by decide +kernel) rfl, gTB_mem 652 (by decide +kernel) rfl, rfl, ⟨by decide, by decide, by decide +kernel⟩⟩
theorem kX3_48_3 : gLV RX3 48 RX3 mX3_lay 4 := ⟨gTB_mem 654 (by decide +kernel) rfl, gTB_mem 656 (by decide +kernel) rfl, gTB_mem 17 (by decide +kernel) rfl, gTB_mem 53 (by decide +kernel) rfl, gTB_mem 657 (by decide +kernel) rfl, rfl, ⟨by decide, by decide, by decide +kernel⟩⟩
theorem kX3_52_3 : gLV RX3 52 RX3 mX3_eachAlone 4 := ⟨gTB_mem 661 (by decide +kernel) rfl, gTB_mem 663 (by decide +kernel) rfl, gTB_mem 18 (by decide +kernel) rfl, gTB_mem 53 (by decide +kernel) rfl, gTB_mem 664 (by decide +kernel) rfl, rfl, ⟨by decide, by decide, by decide +kernel⟩⟩
theorem kX3_62_2 : gLU RX3 62 RX2 ⟨"PointingArms$Field", "empty", "()V"⟩ mX4_empty 0 := ⟨gTB_mem 641 (by decide +kernel) rfl, gTB_mem 359 (by decide +kernel) rfl, gTB_mem 361 (by decide +kernel) rfl, gTB_mem 362 (by decide +kernel) rfl, gTB_mem 49 (by decide +kernel) rfl, gTB_mem 363 (by decide +kernel) rfl, rfl, ⟨by decide, by decide, by decide +kernel⟩, by decide +kernel⟩
theorem kX3_65_2 : gLV RX3 65 RX2 mX2_takeLaws 1 := ⟨gTB_mem 642 (by decide +kernel) rfl, gTB_mem 643 (by decide +kernel) rfl, gTB_mem 644 (by decide +kernel) rfl, gTB_mem 50 (by decide +kernel) rfl, gTB_mem 645 (by decide +kernel) rfl, rfl, ⟨by decide, by decide, by decide +kernel⟩⟩
theorem kX3_69_2 : gLU RX3 69 RX2 ⟨"PointingArms$Field", "get", "(II)I"⟩ mX4_get 2 := ⟨gTB_mem 646 (by decide +kernel) rfl, gTB_mem 478 (by decide +kernel) rfl, gTB_mem 480 (by decide +kernel) rfl, gTB_mem 283 (by decide +kernel) rfl, gTB_mem 49 (by decide +kernel) rfl, gTB_mem 287 (by decide +kernel) rfl, rfl, ⟨by decide, by decide, by decide +kernel⟩, by decide +kernel⟩
theorem kX3_73 : gLN RX3 73 "PointingArms" mX8_addThing 4 := ⟨by decide +kernel, gTB_mem 268 (by decide +kernel) rfl, gTB_mem 46 (by decide +kernel) rfl, gTB_mem 269 (by decide +kernel) rfl, ⟨by decide, by decide, by decide +kernel⟩⟩
theorem kX3_77 : gLS RX3 77 mJ6_bitCount_0f7a4 1 := ⟨gTB_mem 653 (by decide +kernel) rfl, gTB_mem 526 (by decide +kernel) rfl, gTB_mem 58 (by decide +kernel) rfl, gTB_mem 527 (by decide +kernel) rfl, ⟨by decide, by decide, by decide +kernel⟩⟩
theorem kX3_83_2 : gLU RX3 83 RX2 ⟨"PointingArms$Rows", "get", "(II)I"⟩ mX4_get 2 := ⟨gTB_mem 658 (by decide +kernel) rfl, gTB_mem 285 (by decide +kernel) rfl, gTB_mem 286 (by decide +kernel) rfl, gTB_mem 283 (by decide +kernel) rfl, gTB_mem 49 (by decide +kernel) rfl, gTB_mem 287 (by decide +kernel) rfl, rfl, ⟨by decide, by decide, by decide +kernel⟩, by decide +kernel⟩
theorem kX3_83_4 : gLV RX3 83 RX4 mX4_get 2 := ⟨gTB_mem 658 (by decide +kernel) rfl, gTB_mem 283 (by decide +kernel) rfl, gTB_mem 284 (by decide +kernel) rfl, gTB_mem 49 (by decide +kernel) rfl, gTB_mem 287 (by decide +kernel) rfl, rfl, ⟨by decide, by decide, by decide +kernel⟩⟩
theorem kX3_84_2 : gLU RX3 84 RX2 ⟨"PointingArms$Field", "put", "(III)I"⟩ mX4_put 3 := ⟨gTB_mem 659 (by decide +kernel) rfl, gTB_mem 277 (by decide +kernel) rfl, gTB_mem 279 (by decide +kernel) rfl, gTB_mem 280 (by decide +kernel) rfl, gTB_mem 49 (by decide +kernel) rfl, gTB_mem 281 (by decide +kernel) rfl, rfl, ⟨by decide, by decide, by decide +kernel⟩, by decide +kernel⟩
theorem kX3_88 : gLS RX3 88 mJ9_abs_0f7a4 1 := ⟨gTB_mem 660 (by decide +kernel) rfl, gTB_mem 611 (by decide +kernel) rfl, gTB_mem 56 (by decide +kernel) rfl, gTB_mem 612 (by decide +kernel) rfl, ⟨by decide, by decide, by decide +kernel⟩⟩
theorem kX3_93_1 : gLV RX3 93 RX1 mX1_canMean 4 := ⟨gTB_mem 665 (by decide +kernel) rfl, gTB_mem 565 (by decide +kernel) rfl, gTB_mem 566 (by decide +kernel) rfl, gTB_mem 47 (by decide +kernel) rfl, gTB_mem 567 (by decide +kernel) rfl, rfl, ⟨by decide, by decide, by decide +kernel⟩⟩
theorem kX4_23_2 : gLU RX4 23 RX2 ⟨"PointingArms$Rows", "get", "(II)I"⟩ mX4_get 2 := ⟨gTB_mem 282 (by decide +kernel) rfl, gTB_mem 285 (by decide +kernel) rfl, gTB_mem 286 (by decide +kernel) rfl, gTB_mem 283 (by decide +kernel) rfl, gTB_mem 49 (by decide +kernel) rfl, gTB_mem 287 (by decide +kernel) rfl, rfl, ⟨by decide, by decide, by decide +kernel⟩, by decide +kernel⟩
theorem kX4_23_4 : gLV RX4 23 RX4 mX4_get 2 := ⟨gTB_mem 282 (by decide +kernel) rfl, gTB_mem 283 (by decide +kernel) rfl, gTB_mem 284 (by decide +kernel) rfl, gTB_mem 49 (by decide +kernel) rfl, gTB_mem 287 (by decide +kernel) rfl, rfl, ⟨by decide, by decide, by decide +kernel⟩⟩
theorem kX4_27_2 : gLU RX4 27 RX2 ⟨"PointingArms$Rows", "has", "(I)Z"⟩ mX4_has 1 := ⟨gTB_mem 288 (by decide +kernel) rfl, gTB_mem 291 (by decide +kernel) rfl, gTB_mem 292 (by decide +kernel) rfl, gTB_mem 289 (by decide +kernel) rfl, gTB_mem 49 (by decide +kernel) rfl, gTB_mem 293 (by decide +kernel) rfl, rfl, ⟨by decide, by decide, by decide +kernel⟩, by decide +kernel⟩
theorem kX4_27_4 : gLV RX4 27 RX4 mX4_has 1 := ⟨gTB_mem 288 (by decide +kernel) rfl, gTB_mem 289 (by decide +kernel) rfl, gTB_mem 290 (by decide +kernel) rfl, gTB_mem 49 (by decide +kernel) rfl, gTB_mem 293 (by decide +kernel) rfl, rfl, ⟨by decide, by decide, by decide +kernel⟩⟩
theorem kX5_36_2 : gLU RX5 36 RX2 ⟨"PointingArms$Rows", "size", "()I"⟩ mX4_size 0 := ⟨gTB_mem 452 (by decide +kernel) rfl, gTB_mem 1151 (by decide +kernel) rfl, gTB_mem 1152 (by decide +kernel) rfl, gTB_mem 421 (by decide +kernel) rfl, gTB_mem 49 (by decide +kernel) rfl, gTB_mem 422 (by decide +kernel) rfl, rfl, ⟨by decide, by decide, by decide +kernel⟩, by decide +kernel⟩
theorem kX5_36_4 : gLV RX5 36 RX4 mX4_size 0 := ⟨gTB_mem 452 (by decide +kernel) rfl, gTB_mem 421 (by decide +kernel) rfl, gTB_mem 1153 (by decide +kernel) rfl, gTB_mem 49 (by decide +kernel) rfl, gTB_mem 422 (by decide +kernel) rfl, rfl, ⟨by decide, by decide, by decide +kernel⟩⟩
theorem kX5_40_2 : gLU RX5 40 RX2 ⟨"PointingArms$Rows", "get", "(II)I"⟩ mX4_get 2 := ⟨gTB_mem 453 (by decide +kernel) rfl, gTB_mem 285 (by decide +kernel) rfl, gTB_mem 286 (by decide +kernel) rfl, gTB_mem 283 (by decide +kernel) rfl, gTB_mem 49 (by decide +kernel) rfl, gTB_mem 287 (by decide +kernel) rfl, rfl, ⟨by decide, by decide, by decide +kernel⟩, by decide +kernel⟩
theorem kX5_40_4 : gLV RX5 40 RX4 mX4_get 2 := ⟨gTB_mem 453 (by decide +kernel) rfl, gTB_mem 283 (by decide +kernel) rfl, gTB_mem 284 (by decide +kernel) rfl, gTB_mem 49 (by decide +kernel) rfl, gTB_mem 287 (by decide +kernel) rfl, rfl, ⟨by decide, by decide, by decide +kernel⟩⟩
theorem kX5_44_2 : gLU RX5 44 RX2 ⟨"PointingArms$Field", "takeRows", "(LPointingArms$Rows;)V"⟩ mX4_takeRows 1 := ⟨gTB_mem 683 (by decide +kernel) rfl, gTB_mem 409 (by decide +kernel) rfl, gTB_mem 411 (by decide +kernel) rfl, gTB_mem 412 (by decide +kernel) rfl, gTB_mem 49 (by decide +kernel) rfl, gTB_mem 413 (by decide +kernel) rfl, rfl, ⟨by decide, by decide, by decide +kernel⟩, by decide +kernel⟩
theorem kX5_48_2 : gLV RX5 48 RX2 mX2_takeLaws 1 := ⟨gTB_mem 684 (by decide +kernel) rfl, gTB_mem 643 (by decide +kernel) rfl, gTB_mem 644 (by decide +kernel) rfl, gTB_mem 50 (by decide +kernel) rfl, gTB_mem 645 (by decide +kernel) rfl, rfl, ⟨by decide, by decide, by decide +kernel⟩⟩
theorem kX5_52_2 : gLU RX5 52 RX2 ⟨"PointingArms$Rows", "takeRows", "(LPointingArms$Rows;)V"⟩ mX4_takeRows 1 := ⟨gTB_mem 685 (by decide +kernel) rfl, gTB_mem 1154 (by decide +kernel) rfl, gTB_mem 1155 (by decide +kernel) rfl, gTB_mem 412 (by decide +kernel) rfl, gTB_mem 49 (by decide +kernel) rfl, gTB_mem 413 (by decide +kernel) rfl, rfl, ⟨by decide, by decide, by decide +kernel⟩, by decide +kernel⟩
theorem kX5_52_4 : gLV RX5 52 RX4 mX4_takeRows 1 := ⟨gTB_mem 685 (by decide +kernel) rfl, gTB_mem 412 (by decide +kernel) rfl, gTB_mem 1156 (by decide +kernel) rfl, gTB_mem 49 (by decide +kernel) rfl, gTB_mem 413 (by decide +kernel) rfl, rfl, ⟨by decide, by decide, by decide +kernel⟩⟩
theorem kX6_22_6 : gLV RX6 22 RX6 mX6_isMissing 0 := ⟨gTB_mem 705 (by decide +kernel) rfl, gTB_mem 706 (by decide +kernel) rfl, gTB_mem 707 (by decide +kernel) rfl, gTB_mem 54 (by decide +kernel) rfl, gTB_mem 708 (by decide +kernel) rfl, rfl, ⟨by decide, by decide, by decide +kernel⟩⟩
theorem kX6_26_6 : gLV RX6 26 RX6 mX6_refusal 3 := ⟨gTB_mem 754 (by decide +kernel) rfl, gTB_mem 702 (by decide +kernel) rfl, gTB_mem 703 (by decide +kernel) rfl, gTB_mem 54 (by decide +kernel) rfl, gTB_mem 704 (by decide +kernel) rfl, rfl, ⟨by decide, by decide, by decide +kernel⟩⟩
theorem kX7_15 : gLS RX7 15 mX7_byteOf 2 := ⟨gTB_mem 343 (by decide +kernel) rfl, gTB_mem 344 (by decide +kernel) rfl, gTB_mem 51 (by decide +kernel) rfl, gTB_mem 345 (by decide +kernel) rfl, ⟨by decide, by decide, by decide +kernel⟩⟩
theorem kX7_29_7 : gLV RX7 29 RX7 mX7_next 0 := ⟨gTB_mem 380 (by decide +kernel) rfl, gTB_mem 382 (by decide +kernel) rfl, gTB_mem 1 (by decide +kernel) rfl, gTB_mem 51 (by decide +kernel) rfl, gTB_mem 383 (by decide +kernel) rfl, rfl, ⟨by decide, by decide, by decide +kernel⟩⟩
theorem kX7_33_7 : gLV RX7 33 RX7 mX7_failAt 1 := ⟨gTB_mem 384 (by decide +kernel) rfl, gTB_mem 385 (by decide +kernel) rfl, gTB_mem 386 (by decide +kernel) rfl, gTB_mem 51 (by decide +kernel) rfl, gTB_mem 387 (by decide +kernel) rfl, rfl, ⟨by decide, by decide, by decide +kernel⟩⟩
theorem kX7_37_7 : gLV RX7 37 RX7 mX7_takes 1 := ⟨gTB_mem 398 (by decide +kernel) rfl, gTB_mem 399 (by decide +kernel) rfl, gTB_mem 400 (by decide +kernel) rfl, gTB_mem 51 (by decide +kernel) rfl, gTB_mem 401 (by decide +kernel) rfl, rfl, ⟨by decide, by decide, by decide +kernel⟩⟩
theorem kX7_41_7 : gLV RX7 41 RX7 mX7_needs 1 := ⟨gTB_mem 441 (by decide +kernel) rfl, gTB_mem 395 (by decide +kernel) rfl, gTB_mem 396 (by decide +kernel) rfl, gTB_mem 51 (by decide +kernel) rfl, gTB_mem 397 (by decide +kernel) rfl, rfl, ⟨by decide, by decide, by decide +kernel⟩⟩
theorem kX7_45_7 : gLV RX7 45 RX7 mX7_readDigit 1 := ⟨gTB_mem 376 (by decide +kernel) rfl, gTB_mem 377 (by decide +kernel) rfl, gTB_mem 378 (by decide +kernel) rfl, gTB_mem 51 (by decide +kernel) rfl, gTB_mem 379 (by decide +kernel) rfl, rfl, ⟨by decide, by decide, by decide +kernel⟩⟩
theorem kX7_49 : gLS RX7 49 mX7_isDigit 1 := ⟨gTB_mem 388 (by decide +kernel) rfl, gTB_mem 389 (by decide +kernel) rfl, gTB_mem 51 (by decide +kernel) rfl, gTB_mem 390 (by decide +kernel) rfl, ⟨by decide, by decide, by decide +kernel⟩⟩
theorem kX7_53 : gLS RX7 53 mJ9_min_7cf53 2 := ⟨gTB_mem 391 (by decide +kernel) rfl, gTB_mem 392 (by decide +kernel) rfl, gTB_mem 56 (by decide +kernel) rfl, gTB_mem 393 (by decide +kernel) rfl, ⟨by decide, by decide, by decide +kernel⟩⟩
theorem kX8_70 : gLS RX8 70 mX8_isPoint 2 := ⟨gTB_mem 261 (by decide +kernel) rfl, gTB_mem 262 (by decide +kernel) rfl, gTB_mem 46 (by decide +kernel) rfl, gTB_mem 263 (by decide +kernel) rfl, ⟨by decide, by decide, by decide +kernel⟩⟩
theorem kX8_74 : gLS RX8 74 mX8_fits 2 := ⟨gTB_mem 264 (by decide +kernel) rfl, gTB_mem 265 (by decide +kernel) rfl, gTB_mem 46 (by decide +kernel) rfl, gTB_mem 266 (by decide +kernel) rfl, ⟨by decide, by decide, by decide +kernel⟩⟩
theorem kX8_80 : gLS RX8 80 mX8_addThing 4 := ⟨gTB_mem 267 (by decide +kernel) rfl, gTB_mem 268 (by decide +kernel) rfl, gTB_mem 46 (by decide +kernel) rfl, gTB_mem 269 (by decide +kernel) rfl, ⟨by decide, by decide, by decide +kernel⟩⟩
theorem kX8_84_2 : gLU RX8 84 RX2 ⟨"PointingArms$Field", "has", "(I)Z"⟩ mX4_has 1 := ⟨gTB_mem 298 (by decide +kernel) rfl, gTB_mem 299 (by decide +kernel) rfl, gTB_mem 301 (by decide +kernel) rfl, gTB_mem 289 (by decide +kernel) rfl, gTB_mem 49 (by decide +kernel) rfl, gTB_mem 293 (by decide +kernel) rfl, rfl, ⟨by decide, by decide, by decide +kernel⟩, by decide +kernel⟩
theorem kX8_89_2 : gLU RX8 89 RX2 ⟨"PointingArms$Field", "put", "(III)I"⟩ mX4_put 3 := ⟨gTB_mem 276 (by decide +kernel) rfl, gTB_mem 277 (by decide +kernel) rfl, gTB_mem 279 (by decide +kernel) rfl, gTB_mem 280 (by decide +kernel) rfl, gTB_mem 49 (by decide +kernel) rfl, gTB_mem 281 (by decide +kernel) rfl, rfl, ⟨by decide, by decide, by decide +kernel⟩, by decide +kernel⟩
theorem kX8_93 : gLS RX8 93 mX8_isTick 1 := ⟨gTB_mem 307 (by decide +kernel) rfl, gTB_mem 308 (by decide +kernel) rfl, gTB_mem 46 (by decide +kernel) rfl, gTB_mem 309 (by decide +kernel) rfl, ⟨by decide, by decide, by decide +kernel⟩⟩
theorem kX8_96_2 : gLV RX8 96 RX2 mX2_middle 3 := ⟨gTB_mem 310 (by decide +kernel) rfl, gTB_mem 311 (by decide +kernel) rfl, gTB_mem 312 (by decide +kernel) rfl, gTB_mem 50 (by decide +kernel) rfl, gTB_mem 313 (by decide +kernel) rfl, rfl, ⟨by decide, by decide, by decide +kernel⟩⟩
theorem kX8_102 : gLS RX8 102 mX8_addPoint 3 := ⟨gTB_mem 318 (by decide +kernel) rfl, gTB_mem 319 (by decide +kernel) rfl, gTB_mem 46 (by decide +kernel) rfl, gTB_mem 320 (by decide +kernel) rfl, ⟨by decide, by decide, by decide +kernel⟩⟩
theorem kX8_106_2 : gLU RX8 106 RX2 ⟨"PointingArms$Rows", "has", "(I)Z"⟩ mX4_has 1 := ⟨gTB_mem 327 (by decide +kernel) rfl, gTB_mem 291 (by decide +kernel) rfl, gTB_mem 292 (by decide +kernel) rfl, gTB_mem 289 (by decide +kernel) rfl, gTB_mem 49 (by decide +kernel) rfl, gTB_mem 293 (by decide +kernel) rfl, rfl, ⟨by decide, by decide, by decide +kernel⟩, by decide +kernel⟩
theorem kX8_106_4 : gLV RX8 106 RX4 mX4_has 1 := ⟨gTB_mem 327 (by decide +kernel) rfl, gTB_mem 289 (by decide +kernel) rfl, gTB_mem 290 (by decide +kernel) rfl, gTB_mem 49 (by decide +kernel) rfl, gTB_mem 293 (by decide +kernel) rfl, rfl, ⟨by decide, by decide, by decide +kernel⟩⟩
theorem kX8_107_2 : gLU RX8 107 RX2 ⟨"PointingArms$Rows", "put", "(III)I"⟩ mX4_put 3 := ⟨gTB_mem 322 (by decide +kernel) rfl, gTB_mem 1145 (by decide +kernel) rfl, gTB_mem 1146 (by decide +kernel) rfl, gTB_mem 280 (by decide +kernel) rfl, gTB_mem 49 (by decide +kernel) rfl, gTB_mem 281 (by decide +kernel) rfl, rfl, ⟨by decide, by decide, by decide +kernel⟩, by decide +kernel⟩
theorem kX8_107_4 : gLV RX8 107 RX4 mX4_put 3 := ⟨gTB_mem 322 (by decide +kernel) rfl, gTB_mem 280 (by decide +kernel) rfl, gTB_mem 1147 (by decide +kernel) rfl, gTB_mem 49 (by decide +kernel) rfl, gTB_mem 281 (by decide +kernel) rfl, rfl, ⟨by decide, by decide, by decide +kernel⟩⟩
theorem kX8_108_2 : gLV RX8 108 RX2 mX2_changeLaw 2 := ⟨gTB_mem 332 (by decide +kernel) rfl, gTB_mem 333 (by decide +kernel) rfl, gTB_mem 334 (by decide +kernel) rfl, gTB_mem 50 (by decide +kernel) rfl, gTB_mem 335 (by decide +kernel) rfl, rfl, ⟨by decide, by decide, by decide +kernel⟩⟩
theorem kX8_112 : gLS RX8 112 mX7_canHold 2 := ⟨gTB_mem 340 (by decide +kernel) rfl, gTB_mem 341 (by decide +kernel) rfl, gTB_mem 51 (by decide +kernel) rfl, gTB_mem 342 (by decide +kernel) rfl, ⟨by decide, by decide, by decide +kernel⟩⟩
theorem kX8_116_7 : gLV RX8 116 RX7 mX7_append 2 := ⟨gTB_mem 346 (by decide +kernel) rfl, gTB_mem 347 (by decide +kernel) rfl, gTB_mem 348 (by decide +kernel) rfl, gTB_mem 51 (by decide +kernel) rfl, gTB_mem 349 (by decide +kernel) rfl, rfl, ⟨by decide, by decide, by decide +kernel⟩⟩
theorem kX8_119_7 : gLV RX8 119 RX7 mX7_size 0 := ⟨gTB_mem 350 (by decide +kernel) rfl, gTB_mem 351 (by decide +kernel) rfl, gTB_mem 352 (by decide +kernel) rfl, gTB_mem 51 (by decide +kernel) rfl, gTB_mem 353 (by decide +kernel) rfl, rfl, ⟨by decide, by decide, by decide +kernel⟩⟩
theorem kX8_123_2 : gLU RX8 123 RX2 ⟨"PointingArms$Field", "empty", "()V"⟩ mX4_empty 0 := ⟨gTB_mem 358 (by decide +kernel) rfl, gTB_mem 359 (by decide +kernel) rfl, gTB_mem 361 (by decide +kernel) rfl, gTB_mem 362 (by decide +kernel) rfl, gTB_mem 49 (by decide +kernel) rfl, gTB_mem 363 (by decide +kernel) rfl, rfl, ⟨by decide, by decide, by decide +kernel⟩, by decide +kernel⟩
theorem kX8_126_7 : gLV RX8 126 RX7 mX7_begin 0 := ⟨gTB_mem 364 (by decide +kernel) rfl, gTB_mem 365 (by decide +kernel) rfl, gTB_mem 366 (by decide +kernel) rfl, gTB_mem 51 (by decide +kernel) rfl, gTB_mem 367 (by decide +kernel) rfl, rfl, ⟨by decide, by decide, by decide +kernel⟩⟩
theorem kX8_129_8 : gLV RX8 129 RX8 mX8_readThing 0 := ⟨gTB_mem 368 (by decide +kernel) rfl, gTB_mem 370 (by decide +kernel) rfl, gTB_mem 0 (by decide +kernel) rfl, gTB_mem 46 (by decide +kernel) rfl, gTB_mem 371 (by decide +kernel) rfl, rfl, ⟨by decide, by decide, by decide +kernel⟩⟩
theorem kX8_132_7 : gLV RX8 132 RX7 mX7_takes 1 := ⟨gTB_mem 403 (by decide +kernel) rfl, gTB_mem 399 (by decide +kernel) rfl, gTB_mem 400 (by decide +kernel) rfl, gTB_mem 51 (by decide +kernel) rfl, gTB_mem 401 (by decide +kernel) rfl, rfl, ⟨by decide, by decide, by decide +kernel⟩⟩
theorem kX8_136_7 : gLV RX8 136 RX7 mX7_finish 0 := ⟨gTB_mem 404 (by decide +kernel) rfl, gTB_mem 405 (by decide +kernel) rfl, gTB_mem 406 (by decide +kernel) rfl, gTB_mem 51 (by decide +kernel) rfl, gTB_mem 407 (by decide +kernel) rfl, rfl, ⟨by decide, by decide, by decide +kernel⟩⟩
theorem kX8_139_2 : gLU RX8 139 RX2 ⟨"PointingArms$Field", "takeRows", "(LPointingArms$Rows;)V"⟩ mX4_takeRows 1 := ⟨gTB_mem 408 (by decide +kernel) rfl, gTB_mem 409 (by decide +kernel) rfl, gTB_mem 411 (by decide +kernel) rfl, gTB_mem 412 (by decide +kernel) rfl, gTB_mem 49 (by decide +kernel) rfl, gTB_mem 413 (by decide +kernel) rfl, rfl, ⟨by decide, by decide, by decide +kernel⟩, by decide +kernel⟩
theorem kX8_143_2 : gLU RX8 143 RX2 ⟨"PointingArms$Field", "size", "()I"⟩ mX4_size 0 := ⟨gTB_mem 417 (by decide +kernel) rfl, gTB_mem 418 (by decide +kernel) rfl, gTB_mem 420 (by decide +kernel) rfl, gTB_mem 421 (by decide +kernel) rfl, gTB_mem 49 (by decide +kernel) rfl, gTB_mem 422 (by decide +kernel) rfl, rfl, ⟨by decide, by decide, by decide +kernel⟩, by decide +kernel⟩
theorem kX8_144_2 : gLU RX8 144 RX2 ⟨"PointingArms$Rows", "empty", "()V"⟩ mX4_empty 0 := ⟨gTB_mem 427 (by decide +kernel) rfl, gTB_mem 1148 (by decide +kernel) rfl, gTB_mem 1149 (by decide +kernel) rfl, gTB_mem 362 (by decide +kernel) rfl, gTB_mem 49 (by decide +kernel) rfl, gTB_mem 363 (by decide +kernel) rfl, rfl, ⟨by decide, by decide, by decide +kernel⟩, by decide +kernel⟩
theorem kX8_144_4 : gLV RX8 144 RX4 mX4_empty 0 := ⟨gTB_mem 427 (by decide +kernel) rfl, gTB_mem 362 (by decide +kernel) rfl, gTB_mem 1150 (by decide +kernel) rfl, gTB_mem 49 (by decide +kernel) rfl, gTB_mem 363 (by decide +kernel) rfl, rfl, ⟨by decide, by decide, by decide +kernel⟩⟩
theorem kX8_145_8 : gLV RX8 145 RX8 mX8_readSentence 1 := ⟨gTB_mem 428 (by decide +kernel) rfl, gTB_mem 430 (by decide +kernel) rfl, gTB_mem 2 (by decide +kernel) rfl, gTB_mem 46 (by decide +kernel) rfl, gTB_mem 431 (by decide +kernel) rfl, rfl, ⟨by decide, by decide, by decide +kernel⟩⟩
theorem kX8_152_2 : gLU RX8 152 RX2 ⟨"PointingArms$Rows", "takeRows", "(LPointingArms$Rows;)V"⟩ mX4_takeRows 1 := ⟨gTB_mem 447 (by decide +kernel) rfl, gTB_mem 1154 (by decide +kernel) rfl, gTB_mem 1155 (by decide +kernel) rfl, gTB_mem 412 (by decide +kernel) rfl, gTB_mem 49 (by decide +kernel) rfl, gTB_mem 413 (by decide +kernel) rfl, rfl, ⟨by decide, by decide, by decide +kernel⟩, by decide +kernel⟩
theorem kX8_152_4 : gLV RX8 152 RX4 mX4_takeRows 1 := ⟨gTB_mem 447 (by decide +kernel) rfl, gTB_mem 412 (by decide +kernel) rfl, gTB_mem 1156 (by decide +kernel) rfl, gTB_mem 49 (by decide +kernel) rfl, gTB_mem 413 (by decide +kernel) rfl, rfl, ⟨by decide, by decide, by decide +kernel⟩⟩
theorem kX8_153_5 : gLV RX8 153 RX5 mX5_sentences 0 := ⟨gTB_mem 448 (by decide +kernel) rfl, gTB_mem 449 (by decide +kernel) rfl, gTB_mem 450 (by decide +kernel) rfl, gTB_mem 48 (by decide +kernel) rfl, gTB_mem 451 (by decide +kernel) rfl, rfl, ⟨by decide, by decide, by decide +kernel⟩⟩
theorem kX8_156_2 : gLU RX8 156 RX2 ⟨"PointingArms$Rows", "size", "()I"⟩ mX4_size 0 := ⟨gTB_mem 436 (by decide +kernel) rfl, gTB_mem 1151 (by decide +kernel) rfl, gTB_mem 1152 (by decide +kernel) rfl, gTB_mem 421 (by decide +kernel) rfl, gTB_mem 49 (by decide +kernel) rfl, gTB_mem 422 (by decide +kernel) rfl, rfl, ⟨by decide, by decide, by decide +kernel⟩, by decide +kernel⟩
theorem kX8_156_4 : gLV RX8 156 RX4 mX4_size 0 := ⟨gTB_mem 436 (by decide +kernel) rfl, gTB_mem 421 (by decide +kernel) rfl, gTB_mem 1153 (by decide +kernel) rfl, gTB_mem 49 (by decide +kernel) rfl, gTB_mem 422 (by decide +kernel) rfl, rfl, ⟨by decide, by decide, by decide +kernel⟩⟩
theorem kX8_163 : gLS RX8 163 mX8_isArm 2 := ⟨gTB_mem 462 (by decide +kernel) rfl, gTB_mem 463 (by decide +kernel) rfl, gTB_mem 46 (by decide +kernel) rfl, gTB_mem 464 (by decide +kernel) rfl, ⟨by decide, by decide, by decide +kernel⟩⟩
theorem kX8_167_2 : gLV RX8 167 RX2 mX2_metBy 5 := ⟨gTB_mem 467 (by decide +kernel) rfl, gTB_mem 468 (by decide +kernel) rfl, gTB_mem 469 (by decide +kernel) rfl, gTB_mem 50 (by decide +kernel) rfl, gTB_mem 470 (by decide +kernel) rfl, rfl, ⟨by decide, by decide, by decide +kernel⟩⟩
theorem kX8_171_8 : gLV RX8 171 RX8 mX8_meaningOf 4 := ⟨gTB_mem 485 (by decide +kernel) rfl, gTB_mem 487 (by decide +kernel) rfl, gTB_mem 4 (by decide +kernel) rfl, gTB_mem 46 (by decide +kernel) rfl, gTB_mem 488 (by decide +kernel) rfl, rfl, ⟨by decide, by decide, by decide +kernel⟩⟩
theorem kX8_175_8 : gLV RX8 175 RX8 mX8_metBy 4 := ⟨gTB_mem 489 (by decide +kernel) rfl, gTB_mem 491 (by decide +kernel) rfl, gTB_mem 5 (by decide +kernel) rfl, gTB_mem 46 (by decide +kernel) rfl, gTB_mem 492 (by decide +kernel) rfl, rfl, ⟨by decide, by decide, by decide +kernel⟩⟩
theorem kX8_177_2 : gLV RX8 177 RX2 mX2_narrowed 4 := ⟨gTB_mem 494 (by decide +kernel) rfl, gTB_mem 495 (by decide +kernel) rfl, gTB_mem 496 (by decide +kernel) rfl, gTB_mem 50 (by decide +kernel) rfl, gTB_mem 497 (by decide +kernel) rfl, rfl, ⟨by decide, by decide, by decide +kernel⟩⟩
theorem kX8_180_8 : gLV RX8 180 RX8 mX8_meaningOfSentence 2 := ⟨gTB_mem 514 (by decide +kernel) rfl, gTB_mem 516 (by decide +kernel) rfl, gTB_mem 7 (by decide +kernel) rfl, gTB_mem 46 (by decide +kernel) rfl, gTB_mem 517 (by decide +kernel) rfl, rfl, ⟨by decide, by decide, by decide +kernel⟩⟩
theorem kX8_183 : gLS RX8 183 mX8_isOne 1 := ⟨gTB_mem 522 (by decide +kernel) rfl, gTB_mem 523 (by decide +kernel) rfl, gTB_mem 46 (by decide +kernel) rfl, gTB_mem 524 (by decide +kernel) rfl, ⟨by decide, by decide, by decide +kernel⟩⟩
theorem kX8_186_8 : gLV RX8 186 RX8 mX8_areTwo 2 := ⟨gTB_mem 539 (by decide +kernel) rfl, gTB_mem 541 (by decide +kernel) rfl, gTB_mem 8 (by decide +kernel) rfl, gTB_mem 46 (by decide +kernel) rfl, gTB_mem 542 (by decide +kernel) rfl, rfl, ⟨by decide, by decide, by decide +kernel⟩⟩
theorem kX8_189 : gLS RX8 189 mJ6_numberOfTrailingZeros_0f7a4 1 := ⟨gTB_mem 547 (by decide +kernel) rfl, gTB_mem 499 (by decide +kernel) rfl, gTB_mem 58 (by decide +kernel) rfl, gTB_mem 500 (by decide +kernel) rfl, ⟨by decide, by decide, by decide +kernel⟩⟩
theorem kX8_195_1 : gLV RX8 195 RX1 mX1_armsFor 4 := ⟨gTB_mem 552 (by decide +kernel) rfl, gTB_mem 553 (by decide +kernel) rfl, gTB_mem 554 (by decide +kernel) rfl, gTB_mem 47 (by decide +kernel) rfl, gTB_mem 555 (by decide +kernel) rfl, rfl, ⟨by decide, by decide, by decide +kernel⟩⟩
theorem kX8_198_1 : gLV RX8 198 RX1 mX1_canMean 4 := ⟨gTB_mem 564 (by decide +kernel) rfl, gTB_mem 565 (by decide +kernel) rfl, gTB_mem 566 (by decide +kernel) rfl, gTB_mem 47 (by decide +kernel) rfl, gTB_mem 567 (by decide +kernel) rfl, rfl, ⟨by decide, by decide, by decide +kernel⟩⟩
theorem kX8_202_8 : gLV RX8 202 RX8 mX8_isSet 1 := ⟨gTB_mem 572 (by decide +kernel) rfl, gTB_mem 574 (by decide +kernel) rfl, gTB_mem 9 (by decide +kernel) rfl, gTB_mem 46 (by decide +kernel) rfl, gTB_mem 575 (by decide +kernel) rfl, rfl, ⟨by decide, by decide, by decide +kernel⟩⟩
theorem kX8_205_0 : gLV RX8 205 RX0 mX0_fewestArms 5 := ⟨gTB_mem 576 (by decide +kernel) rfl, gTB_mem 577 (by decide +kernel) rfl, gTB_mem 578 (by decide +kernel) rfl, gTB_mem 52 (by decide +kernel) rfl, gTB_mem 579 (by decide +kernel) rfl, rfl, ⟨by decide, by decide, by decide +kernel⟩⟩
theorem kX8_209_8 : gLV RX8 209 RX8 mX8_asideAt 5 := ⟨gTB_mem 606 (by decide +kernel) rfl, gTB_mem 608 (by decide +kernel) rfl, gTB_mem 13 (by decide +kernel) rfl, gTB_mem 46 (by decide +kernel) rfl, gTB_mem 609 (by decide +kernel) rfl, rfl, ⟨by decide, by decide, by decide +kernel⟩⟩
theorem kX8_212_2 : gLU RX8 212 RX2 ⟨"PointingArms$Rows", "open", "()I"⟩ mX4_open 0 := ⟨gTB_mem 321 (by decide +kernel) rfl, gTB_mem 1142 (by decide +kernel) rfl, gTB_mem 1143 (by decide +kernel) rfl, gTB_mem 274 (by decide +kernel) rfl, gTB_mem 49 (by decide +kernel) rfl, gTB_mem 275 (by decide +kernel) rfl, rfl, ⟨by decide, by decide, by decide +kernel⟩, by decide +kernel⟩
theorem kX8_212_4 : gLV RX8 212 RX4 mX4_open 0 := ⟨gTB_mem 321 (by decide +kernel) rfl, gTB_mem 274 (by decide +kernel) rfl, gTB_mem 1144 (by decide +kernel) rfl, gTB_mem 49 (by decide +kernel) rfl, gTB_mem 275 (by decide +kernel) rfl, rfl, ⟨by decide, by decide, by decide +kernel⟩⟩
theorem kX8_215_8 : gLV RX8 215 RX8 mX8_couldStand 2 := ⟨gTB_mem 621 (by decide +kernel) rfl, gTB_mem 623 (by decide +kernel) rfl, gTB_mem 14 (by decide +kernel) rfl, gTB_mem 46 (by decide +kernel) rfl, gTB_mem 624 (by decide +kernel) rfl, rfl, ⟨by decide, by decide, by decide +kernel⟩⟩
theorem kX8_218_3 : gLV RX8 218 RX3 mX3_leastWays 5 := ⟨gTB_mem 633 (by decide +kernel) rfl, gTB_mem 634 (by decide +kernel) rfl, gTB_mem 635 (by decide +kernel) rfl, gTB_mem 53 (by decide +kernel) rfl, gTB_mem 636 (by decide +kernel) rfl, rfl, ⟨by decide, by decide, by decide +kernel⟩⟩
theorem kX8_222_3 : gLV RX8 222 RX3 mX3_stallOf 1 := ⟨gTB_mem 667 (by decide +kernel) rfl, gTB_mem 668 (by decide +kernel) rfl, gTB_mem 669 (by decide +kernel) rfl, gTB_mem 53 (by decide +kernel) rfl, gTB_mem 670 (by decide +kernel) rfl, rfl, ⟨by decide, by decide, by decide +kernel⟩⟩
theorem kX8_225_5 : gLV RX8 225 RX5 mX5_takeAll 1 := ⟨gTB_mem 679 (by decide +kernel) rfl, gTB_mem 680 (by decide +kernel) rfl, gTB_mem 681 (by decide +kernel) rfl, gTB_mem 48 (by decide +kernel) rfl, gTB_mem 682 (by decide +kernel) rfl, rfl, ⟨by decide, by decide, by decide +kernel⟩⟩
theorem kX8_233_8 : gLV RX8 233 RX8 mX8_sheetOf 1 := ⟨gTB_mem 694 (by decide +kernel) rfl, gTB_mem 696 (by decide +kernel) rfl, gTB_mem 19 (by decide +kernel) rfl, gTB_mem 46 (by decide +kernel) rfl, gTB_mem 697 (by decide +kernel) rfl, rfl, ⟨by decide, by decide, by decide +kernel⟩⟩
theorem kX8_237 : gLS RX8 237 mX8_isLane 1 := ⟨gTB_mem 698 (by decide +kernel) rfl, gTB_mem 699 (by decide +kernel) rfl, gTB_mem 46 (by decide +kernel) rfl, gTB_mem 700 (by decide +kernel) rfl, ⟨by decide, by decide, by decide +kernel⟩⟩
theorem kX8_240_6 : gLV RX8 240 RX6 mX6_refusal 3 := ⟨gTB_mem 701 (by decide +kernel) rfl, gTB_mem 702 (by decide +kernel) rfl, gTB_mem 703 (by decide +kernel) rfl, gTB_mem 54 (by decide +kernel) rfl, gTB_mem 704 (by decide +kernel) rfl, rfl, ⟨by decide, by decide, by decide +kernel⟩⟩
theorem kX8_243_6 : gLV RX8 243 RX6 mX6_get 1 := ⟨gTB_mem 709 (by decide +kernel) rfl, gTB_mem 710 (by decide +kernel) rfl, gTB_mem 711 (by decide +kernel) rfl, gTB_mem 54 (by decide +kernel) rfl, gTB_mem 712 (by decide +kernel) rfl, rfl, ⟨by decide, by decide, by decide +kernel⟩⟩
theorem kX8_247_6 : gLV RX8 247 RX6 mX6_renew 2 := ⟨gTB_mem 717 (by decide +kernel) rfl, gTB_mem 718 (by decide +kernel) rfl, gTB_mem 719 (by decide +kernel) rfl, gTB_mem 54 (by decide +kernel) rfl, gTB_mem 720 (by decide +kernel) rfl, rfl, ⟨by decide, by decide, by decide +kernel⟩⟩
theorem kX8_250_6 : gLV RX8 250 RX6 mX6_isMissing 0 := ⟨gTB_mem 725 (by decide +kernel) rfl, gTB_mem 706 (by decide +kernel) rfl, gTB_mem 707 (by decide +kernel) rfl, gTB_mem 54 (by decide +kernel) rfl, gTB_mem 708 (by decide +kernel) rfl, rfl, ⟨by decide, by decide, by decide +kernel⟩⟩
theorem kX8_254_6 : gLV RX8 254 RX6 mX6_size 0 := ⟨gTB_mem 726 (by decide +kernel) rfl, gTB_mem 727 (by decide +kernel) rfl, gTB_mem 728 (by decide +kernel) rfl, gTB_mem 54 (by decide +kernel) rfl, gTB_mem 729 (by decide +kernel) rfl, rfl, ⟨by decide, by decide, by decide +kernel⟩⟩
theorem kX8_255_6 : gLV RX8 255 RX6 mX6_lose 0 := ⟨gTB_mem 730 (by decide +kernel) rfl, gTB_mem 731 (by decide +kernel) rfl, gTB_mem 732 (by decide +kernel) rfl, gTB_mem 54 (by decide +kernel) rfl, gTB_mem 733 (by decide +kernel) rfl, rfl, ⟨by decide, by decide, by decide +kernel⟩⟩
theorem kX8_258_6 : gLV RX8 258 RX6 mX6_put 2 := ⟨gTB_mem 738 (by decide +kernel) rfl, gTB_mem 739 (by decide +kernel) rfl, gTB_mem 740 (by decide +kernel) rfl, gTB_mem 54 (by decide +kernel) rfl, gTB_mem 741 (by decide +kernel) rfl, rfl, ⟨by decide, by decide, by decide +kernel⟩⟩
theorem kX8_261_6 : gLV RX8 261 RX6 mX6_lane 0 := ⟨gTB_mem 746 (by decide +kernel) rfl, gTB_mem 747 (by decide +kernel) rfl, gTB_mem 748 (by decide +kernel) rfl, gTB_mem 54 (by decide +kernel) rfl, gTB_mem 749 (by decide +kernel) rfl, rfl, ⟨by decide, by decide, by decide +kernel⟩⟩
theorem kX8_264_6 : gLV RX8 264 RX6 mX6_takeItems 4 := ⟨gTB_mem 750 (by decide +kernel) rfl, gTB_mem 751 (by decide +kernel) rfl, gTB_mem 752 (by decide +kernel) rfl, gTB_mem 54 (by decide +kernel) rfl, gTB_mem 753 (by decide +kernel) rfl, rfl, ⟨by decide, by decide, by decide +kernel⟩⟩
theorem kX8_272 : gLS RX8 272 mJ6_bitCount_0f7a4 1 := ⟨gTB_mem 525 (by decide +kernel) rfl, gTB_mem 526 (by decide +kernel) rfl, gTB_mem 58 (by decide +kernel) rfl, gTB_mem 527 (by decide +kernel) rfl, ⟨by decide, by decide, by decide +kernel⟩⟩
theorem kX8_275_2 : gLU RX8 275 RX2 ⟨"PointingArms$Field", "open", "()I"⟩ mX4_open 0 := ⟨gTB_mem 270 (by decide +kernel) rfl, gTB_mem 271 (by decide +kernel) rfl, gTB_mem 273 (by decide +kernel) rfl, gTB_mem 274 (by decide +kernel) rfl, gTB_mem 49 (by decide +kernel) rfl, gTB_mem 275 (by decide +kernel) rfl, rfl, ⟨by decide, by decide, by decide +kernel⟩, by decide +kernel⟩
theorem kX8_276_2 : gLU RX8 276 RX2 ⟨"PointingArms$Rows", "get", "(II)I"⟩ mX4_get 2 := ⟨gTB_mem 493 (by decide +kernel) rfl, gTB_mem 285 (by decide +kernel) rfl, gTB_mem 286 (by decide +kernel) rfl, gTB_mem 283 (by decide +kernel) rfl, gTB_mem 49 (by decide +kernel) rfl, gTB_mem 287 (by decide +kernel) rfl, rfl, ⟨by decide, by decide, by decide +kernel⟩, by decide +kernel⟩
theorem kX8_276_4 : gLV RX8 276 RX4 mX4_get 2 := ⟨gTB_mem 493 (by decide +kernel) rfl, gTB_mem 283 (by decide +kernel) rfl, gTB_mem 284 (by decide +kernel) rfl, gTB_mem 49 (by decide +kernel) rfl, gTB_mem 287 (by decide +kernel) rfl, rfl, ⟨by decide, by decide, by decide +kernel⟩⟩
theorem kX8_278 : gLS RX8 278 mJ9_abs_0f7a4 1 := ⟨gTB_mem 610 (by decide +kernel) rfl, gTB_mem 611 (by decide +kernel) rfl, gTB_mem 56 (by decide +kernel) rfl, gTB_mem 612 (by decide +kernel) rfl, ⟨by decide, by decide, by decide +kernel⟩⟩
theorem kX8_283_7 : gLV RX8 283 RX7 mX7_readNumber 1 := ⟨gTB_mem 372 (by decide +kernel) rfl, gTB_mem 373 (by decide +kernel) rfl, gTB_mem 374 (by decide +kernel) rfl, gTB_mem 51 (by decide +kernel) rfl, gTB_mem 375 (by decide +kernel) rfl, rfl, ⟨by decide, by decide, by decide +kernel⟩⟩
theorem kX8_286_7 : gLV RX8 286 RX7 mX7_needs 1 := ⟨gTB_mem 394 (by decide +kernel) rfl, gTB_mem 395 (by decide +kernel) rfl, gTB_mem 396 (by decide +kernel) rfl, gTB_mem 51 (by decide +kernel) rfl, gTB_mem 397 (by decide +kernel) rfl, rfl, ⟨by decide, by decide, by decide +kernel⟩⟩
theorem kX8_290_7 : gLV RX8 290 RX7 mX7_readDigit 1 := ⟨gTB_mem 402 (by decide +kernel) rfl, gTB_mem 377 (by decide +kernel) rfl, gTB_mem 378 (by decide +kernel) rfl, gTB_mem 51 (by decide +kernel) rfl, gTB_mem 379 (by decide +kernel) rfl, rfl, ⟨by decide, by decide, by decide +kernel⟩⟩
theorem kX8_293_8 : gLV RX8 293 RX8 mX8_readArm 1 := ⟨gTB_mem 432 (by decide +kernel) rfl, gTB_mem 434 (by decide +kernel) rfl, gTB_mem 3 (by decide +kernel) rfl, gTB_mem 46 (by decide +kernel) rfl, gTB_mem 435 (by decide +kernel) rfl, rfl, ⟨by decide, by decide, by decide +kernel⟩⟩
theorem kX8_296_7 : gLV RX8 296 RX7 mX7_readSigned 0 := ⟨gTB_mem 437 (by decide +kernel) rfl, gTB_mem 438 (by decide +kernel) rfl, gTB_mem 439 (by decide +kernel) rfl, gTB_mem 51 (by decide +kernel) rfl, gTB_mem 440 (by decide +kernel) rfl, rfl, ⟨by decide, by decide, by decide +kernel⟩⟩
theorem kX8_299_7 : gLV RX8 299 RX7 mX7_placeOfNext 0 := ⟨gTB_mem 442 (by decide +kernel) rfl, gTB_mem 443 (by decide +kernel) rfl, gTB_mem 444 (by decide +kernel) rfl, gTB_mem 51 (by decide +kernel) rfl, gTB_mem 445 (by decide +kernel) rfl, rfl, ⟨by decide, by decide, by decide +kernel⟩⟩
theorem kX8_302_7 : gLV RX8 302 RX7 mX7_failAt 1 := ⟨gTB_mem 446 (by decide +kernel) rfl, gTB_mem 385 (by decide +kernel) rfl, gTB_mem 386 (by decide +kernel) rfl, gTB_mem 51 (by decide +kernel) rfl, gTB_mem 387 (by decide +kernel) rfl, rfl, ⟨by decide, by decide, by decide +kernel⟩⟩
theorem kX9_84 : gLS RX9 84 mX9_in 3 := ⟨gTB_mem 867 (by decide +kernel) rfl, gTB_mem 868 (by decide +kernel) rfl, gTB_mem 55 (by decide +kernel) rfl, gTB_mem 869 (by decide +kernel) rfl, ⟨by decide, by decide, by decide +kernel⟩⟩
theorem kX9_100 : gLS RX9 100 mX9_isPoint 2 := ⟨gTB_mem 863 (by decide +kernel) rfl, gTB_mem 864 (by decide +kernel) rfl, gTB_mem 55 (by decide +kernel) rfl, gTB_mem 865 (by decide +kernel) rfl, ⟨by decide, by decide, by decide +kernel⟩⟩
theorem kX9_105_9 : gLV RX9 105 RX9 mX9_comes 4 := ⟨gTB_mem 871 (by decide +kernel) rfl, gTB_mem 873 (by decide +kernel) rfl, gTB_mem 20 (by decide +kernel) rfl, gTB_mem 55 (by decide +kernel) rfl, gTB_mem 874 (by decide +kernel) rfl, rfl, ⟨by decide, by decide, by decide +kernel⟩⟩
theorem kX9_115_9 : gLV RX9 115 RX9 mX9_isThing 1 := ⟨gTB_mem 882 (by decide +kernel) rfl, gTB_mem 884 (by decide +kernel) rfl, gTB_mem 21 (by decide +kernel) rfl, gTB_mem 55 (by decide +kernel) rfl, gTB_mem 885 (by decide +kernel) rfl, rfl, ⟨by decide, by decide, by decide +kernel⟩⟩
theorem kX9_120 : gLS RX9 120 mX9_isTick 1 := ⟨gTB_mem 891 (by decide +kernel) rfl, gTB_mem 892 (by decide +kernel) rfl, gTB_mem 55 (by decide +kernel) rfl, gTB_mem 893 (by decide +kernel) rfl, ⟨by decide, by decide, by decide +kernel⟩⟩
theorem kX9_123_9 : gLV RX9 123 RX9 mX9_middle 3 := ⟨gTB_mem 895 (by decide +kernel) rfl, gTB_mem 897 (by decide +kernel) rfl, gTB_mem 22 (by decide +kernel) rfl, gTB_mem 55 (by decide +kernel) rfl, gTB_mem 898 (by decide +kernel) rfl, rfl, ⟨by decide, by decide, by decide +kernel⟩⟩
theorem kX9_127_9 : gLV RX9 127 RX9 mX9_isOne 1 := ⟨gTB_mem 907 (by decide +kernel) rfl, gTB_mem 909 (by decide +kernel) rfl, gTB_mem 23 (by decide +kernel) rfl, gTB_mem 55 (by decide +kernel) rfl, gTB_mem 910 (by decide +kernel) rfl, rfl, ⟨by decide, by decide, by decide +kernel⟩⟩
theorem kX9_148_9 : gLV RX9 148 RX9 mX9_here 0 := ⟨gTB_mem 931 (by decide +kernel) rfl, gTB_mem 933 (by decide +kernel) rfl, gTB_mem 25 (by decide +kernel) rfl, gTB_mem 55 (by decide +kernel) rfl, gTB_mem 934 (by decide +kernel) rfl, rfl, ⟨by decide, by decide, by decide +kernel⟩⟩
theorem kX9_156_9 : gLV RX9 156 RX9 mX9_has 1 := ⟨gTB_mem 941 (by decide +kernel) rfl, gTB_mem 943 (by decide +kernel) rfl, gTB_mem 27 (by decide +kernel) rfl, gTB_mem 55 (by decide +kernel) rfl, gTB_mem 944 (by decide +kernel) rfl, rfl, ⟨by decide, by decide, by decide +kernel⟩⟩
theorem kX9_159_9 : gLV RX9 159 RX9 mX9_digit 1 := ⟨gTB_mem 945 (by decide +kernel) rfl, gTB_mem 947 (by decide +kernel) rfl, gTB_mem 28 (by decide +kernel) rfl, gTB_mem 55 (by decide +kernel) rfl, gTB_mem 948 (by decide +kernel) rfl, rfl, ⟨by decide, by decide, by decide +kernel⟩⟩
theorem kX9_163_9 : gLV RX9 163 RX9 mX9_number 0 := ⟨gTB_mem 927 (by decide +kernel) rfl, gTB_mem 929 (by decide +kernel) rfl, gTB_mem 24 (by decide +kernel) rfl, gTB_mem 55 (by decide +kernel) rfl, gTB_mem 930 (by decide +kernel) rfl, rfl, ⟨by decide, by decide, by decide +kernel⟩⟩
theorem kX9_166_9 : gLV RX9 166 RX9 mX9_comma 0 := ⟨gTB_mem 937 (by decide +kernel) rfl, gTB_mem 939 (by decide +kernel) rfl, gTB_mem 26 (by decide +kernel) rfl, gTB_mem 55 (by decide +kernel) rfl, gTB_mem 940 (by decide +kernel) rfl, rfl, ⟨by decide, by decide, by decide +kernel⟩⟩
theorem kX9_169_9 : gLV RX9 169 RX9 mX9_signed 0 := ⟨gTB_mem 957 (by decide +kernel) rfl, gTB_mem 959 (by decide +kernel) rfl, gTB_mem 30 (by decide +kernel) rfl, gTB_mem 55 (by decide +kernel) rfl, gTB_mem 960 (by decide +kernel) rfl, rfl, ⟨by decide, by decide, by decide +kernel⟩⟩
theorem kX9_172_9 : gLV RX9 172 RX9 mX9_arm 1 := ⟨gTB_mem 953 (by decide +kernel) rfl, gTB_mem 955 (by decide +kernel) rfl, gTB_mem 29 (by decide +kernel) rfl, gTB_mem 55 (by decide +kernel) rfl, gTB_mem 956 (by decide +kernel) rfl, rfl, ⟨by decide, by decide, by decide +kernel⟩⟩
theorem kX9_185_9 : gLV RX9 185 RX9 mX9_isMet 7 := ⟨gTB_mem 978 (by decide +kernel) rfl, gTB_mem 980 (by decide +kernel) rfl, gTB_mem 32 (by decide +kernel) rfl, gTB_mem 55 (by decide +kernel) rfl, gTB_mem 981 (by decide +kernel) rfl, rfl, ⟨by decide, by decide, by decide +kernel⟩⟩
theorem kX9_189_9 : gLV RX9 189 RX9 mX9_meetsAt 5 := ⟨gTB_mem 974 (by decide +kernel) rfl, gTB_mem 976 (by decide +kernel) rfl, gTB_mem 31 (by decide +kernel) rfl, gTB_mem 55 (by decide +kernel) rfl, gTB_mem 977 (by decide +kernel) rfl, rfl, ⟨by decide, by decide, by decide +kernel⟩⟩
theorem kX9_193_9 : gLV RX9 193 RX9 mX9_ahead 6 := ⟨gTB_mem 990 (by decide +kernel) rfl, gTB_mem 992 (by decide +kernel) rfl, gTB_mem 34 (by decide +kernel) rfl, gTB_mem 55 (by decide +kernel) rfl, gTB_mem 993 (by decide +kernel) rfl, rfl, ⟨by decide, by decide, by decide +kernel⟩⟩
theorem kX9_197 : gLS RX9 197 mX9_isArm 2 := ⟨gTB_mem 969 (by decide +kernel) rfl, gTB_mem 970 (by decide +kernel) rfl, gTB_mem 55 (by decide +kernel) rfl, gTB_mem 971 (by decide +kernel) rfl, ⟨by decide, by decide, by decide +kernel⟩⟩
theorem kX9_201_9 : gLV RX9 201 RX9 mX9_meansAt 5 := ⟨gTB_mem 986 (by decide +kernel) rfl, gTB_mem 988 (by decide +kernel) rfl, gTB_mem 33 (by decide +kernel) rfl, gTB_mem 55 (by decide +kernel) rfl, gTB_mem 989 (by decide +kernel) rfl, rfl, ⟨by decide, by decide, by decide +kernel⟩⟩
theorem kX9_204_9 : gLV RX9 204 RX9 mX9_saysAt 2 := ⟨gTB_mem 1002 (by decide +kernel) rfl, gTB_mem 1004 (by decide +kernel) rfl, gTB_mem 35 (by decide +kernel) rfl, gTB_mem 55 (by decide +kernel) rfl, gTB_mem 1005 (by decide +kernel) rfl, rfl, ⟨by decide, by decide, by decide +kernel⟩⟩
theorem kX9_208 : gLS RX9 208 mX9_isSingle 1 := ⟨gTB_mem 1010 (by decide +kernel) rfl, gTB_mem 1011 (by decide +kernel) rfl, gTB_mem 55 (by decide +kernel) rfl, gTB_mem 1012 (by decide +kernel) rfl, ⟨by decide, by decide, by decide +kernel⟩⟩
theorem kX9_211 : gLS RX9 211 mX9_which 1 := ⟨gTB_mem 1025 (by decide +kernel) rfl, gTB_mem 1026 (by decide +kernel) rfl, gTB_mem 55 (by decide +kernel) rfl, gTB_mem 1027 (by decide +kernel) rfl, ⟨by decide, by decide, by decide +kernel⟩⟩
theorem kX9_214_9 : gLV RX9 214 RX9 mX9_aloneBy 3 := ⟨gTB_mem 1032 (by decide +kernel) rfl, gTB_mem 1034 (by decide +kernel) rfl, gTB_mem 36 (by decide +kernel) rfl, gTB_mem 55 (by decide +kernel) rfl, gTB_mem 1035 (by decide +kernel) rfl, rfl, ⟨by decide, by decide, by decide +kernel⟩⟩
theorem kX9_221_9 : gLV RX9 221 RX9 mX9_isSet 1 := ⟨gTB_mem 1046 (by decide +kernel) rfl, gTB_mem 1048 (by decide +kernel) rfl, gTB_mem 37 (by decide +kernel) rfl, gTB_mem 55 (by decide +kernel) rfl, gTB_mem 1049 (by decide +kernel) rfl, rfl, ⟨by decide, by decide, by decide +kernel⟩⟩
theorem kX9_224_9 : gLV RX9 224 RX9 mX9_fewestOf 3 := ⟨gTB_mem 1050 (by decide +kernel) rfl, gTB_mem 1052 (by decide +kernel) rfl, gTB_mem 38 (by decide +kernel) rfl, gTB_mem 55 (by decide +kernel) rfl, gTB_mem 1053 (by decide +kernel) rfl, rfl, ⟨by decide, by decide, by decide +kernel⟩⟩
theorem kX9_227 : gLS RX9 227 mX9_size 1 := ⟨gTB_mem 1058 (by decide +kernel) rfl, gTB_mem 1059 (by decide +kernel) rfl, gTB_mem 55 (by decide +kernel) rfl, gTB_mem 1060 (by decide +kernel) rfl, ⟨by decide, by decide, by decide +kernel⟩⟩
theorem kX9_232_9 : gLV RX9 232 RX9 mX9_metOn 5 := ⟨gTB_mem 1086 (by decide +kernel) rfl, gTB_mem 1088 (by decide +kernel) rfl, gTB_mem 41 (by decide +kernel) rfl, gTB_mem 55 (by decide +kernel) rfl, gTB_mem 1089 (by decide +kernel) rfl, rfl, ⟨by decide, by decide, by decide +kernel⟩⟩
theorem kX9_235_9 : gLV RX9 235 RX9 mX9_lays 2 := ⟨gTB_mem 1078 (by decide +kernel) rfl, gTB_mem 1080 (by decide +kernel) rfl, gTB_mem 39 (by decide +kernel) rfl, gTB_mem 55 (by decide +kernel) rfl, gTB_mem 1081 (by decide +kernel) rfl, rfl, ⟨by decide, by decide, by decide +kernel⟩⟩
theorem kX9_238_9 : gLV RX9 238 RX9 mX9_isClear 3 := ⟨gTB_mem 1082 (by decide +kernel) rfl, gTB_mem 1084 (by decide +kernel) rfl, gTB_mem 40 (by decide +kernel) rfl, gTB_mem 55 (by decide +kernel) rfl, gTB_mem 1085 (by decide +kernel) rfl, rfl, ⟨by decide, by decide, by decide +kernel⟩⟩
theorem kX9_242_9 : gLV RX9 242 RX9 mX9_lay 2 := ⟨gTB_mem 1098 (by decide +kernel) rfl, gTB_mem 1100 (by decide +kernel) rfl, gTB_mem 42 (by decide +kernel) rfl, gTB_mem 55 (by decide +kernel) rfl, gTB_mem 1101 (by decide +kernel) rfl, rfl, ⟨by decide, by decide, by decide +kernel⟩⟩
theorem kX9_249_9 : gLV RX9 249 RX9 mX9_gives 2 := ⟨gTB_mem 1106 (by decide +kernel) rfl, gTB_mem 1108 (by decide +kernel) rfl, gTB_mem 43 (by decide +kernel) rfl, gTB_mem 55 (by decide +kernel) rfl, gTB_mem 1109 (by decide +kernel) rfl, rfl, ⟨by decide, by decide, by decide +kernel⟩⟩
theorem kX9_253 : gLS RX9 253 mX9_isSheet 1 := ⟨gTB_mem 1114 (by decide +kernel) rfl, gTB_mem 1115 (by decide +kernel) rfl, gTB_mem 55 (by decide +kernel) rfl, gTB_mem 1116 (by decide +kernel) rfl, ⟨by decide, by decide, by decide +kernel⟩⟩
theorem kX9_256 : gLS RX9 256 mX9_isLane 1 := ⟨gTB_mem 1117 (by decide +kernel) rfl, gTB_mem 1118 (by decide +kernel) rfl, gTB_mem 55 (by decide +kernel) rfl, gTB_mem 1119 (by decide +kernel) rfl, ⟨by decide, by decide, by decide +kernel⟩⟩
theorem kX9_261_9 : gLV RX9 261 RX9 mX9_finds 4 := ⟨gTB_mem 1121 (by decide +kernel) rfl, gTB_mem 1123 (by decide +kernel) rfl, gTB_mem 44 (by decide +kernel) rfl, gTB_mem 55 (by decide +kernel) rfl, gTB_mem 1124 (by decide +kernel) rfl, rfl, ⟨by decide, by decide, by decide +kernel⟩⟩
end
section
/-! The rules of branches, ends and calls over a method's own list of instructions. -/
theorem gDec.at2 {cc : ByteArray} {L : List (Nat × Instr)} (hd : gDec cc L) (i : Nat) {pc len : Nat} {ins : Instr} (h : L[i]? = some (pc, ins)) (hl : glen ins = len) : decode cc pc = .ok (ins, len) := by
  rw [← hl]
  exact hd (pc, ins) (List.mem_of_getElem? h)
section TableRules
variable {M M' : gM} {R R' : Room} {E : gS → Prop} {pc : Nat} {lv : List (Nat × Value)} {st : List Value} {w w2 w3 : gW} {L : List (Nat × Instr)} {av : List Value} {rr : Option Value} {idx n : Nat}
theorem Ti_lt (hq : gDec M.2.1 L) (i : Nat) (off : Int) (tgt : Nat) (h : L[i]? = some (pc, .ifCond .lt off)) (ht : (pc : Int) + off = (tgt : Int)) {x : Int32} (kt : x < 0 → Go M R E (tgt, lv, st, w)) (kf : ¬ x < 0 → Go M R E (pc + 3, lv, st, w)) : Go M R E (pc, lv, .int x :: st, w) := by
  have h9 := hq.at2 i h rfl
  exact Go.if_lt tgt h9 ht kt kf
theorem Ti_ge (hq : gDec M.2.1 L) (i : Nat) (off : Int) (tgt : Nat) (h : L[i]? = some (pc, .ifCond .ge off)) (ht : (pc : Int) + off = (tgt : Int)) {x : Int32} (kt : 0 ≤ x → Go M R E (tgt, lv, st, w)) (kf : ¬ 0 ≤ x → Go M R E (pc + 3, lv, st, w)) : Go M R E (pc, lv, .int x :: st, w) := by
  have h9 := hq.at2 i h rfl
  exact Go.if_ge tgt h9 ht kt kf
theorem Ti_gt (hq : gDec M.2.1 L) (i : Nat) (off : Int) (tgt : Nat) (h : L[i]? = some (pc, .ifCond .gt off)) (ht : (pc : Int) + off = (tgt : Int)) {x : Int32} (kt : 0 < x → Go M R E (tgt, lv, st, w)) (kf : ¬ 0 < x → Go M R E (pc + 3, lv, st, w)) : Go M R E (pc, lv, .int x :: st, w) := by
  have h9 := hq.at2 i h rfl
  exact Go.if_gt tgt h9 ht kt kf
theorem Ti_le (hq : gDec M.2.1 L) (i : Nat) (off : Int) (tgt : Nat) (h : L[i]? = some (pc, .ifCond .le off)) (ht : (pc : Int) + off = (tgt : Int)) {x : Int32} (kt : x ≤ 0 → Go M R E (tgt, lv, st, w)) (kf : ¬ x ≤ 0 → Go M R E (pc + 3, lv, st, w)) : Go M R E (pc, lv, .int x :: st, w) := by
  have h9 := hq.at2 i h rfl
  exact Go.if_le tgt h9 ht kt kf
theorem Ti_eq (hq : gDec M.2.1 L) (i : Nat) (off : Int) (tgt : Nat) (h : L[i]? = some (pc, .ifCond .eq off)) (ht : (pc : Int) + off = (tgt : Int)) {x : Int32} (kt : x = 0 → Go M R E (tgt, lv, st, w)) (kf : ¬ x = 0 → Go M R E (pc + 3, lv, st, w)) : Go M R E (pc, lv, .int x :: st, w) := by
  have h9 := hq.at2 i h rfl
  exact Go.if_eq tgt h9 ht kt kf
theorem Ti_ne (hq : gDec M.2.1 L) (i : Nat) (off : Int) (tgt : Nat) (h : L[i]? = some (pc, .ifCond .ne off)) (ht : (pc : Int) + off = (tgt : Int)) {x : Int32} (kt : ¬ x = 0 → Go M R E (tgt, lv, st, w)) (kf : x = 0 → Go M R E (pc + 3, lv, st, w)) : Go M R E (pc, lv, .int x :: st, w) := by
  have h9 := hq.at2 i h rfl
  exact Go.if_ne tgt h9 ht kt kf
theorem Tc_lt (hq : gDec M.2.1 L) (i : Nat) (off : Int) (tgt : Nat) (h : L[i]? = some (pc, .if_icmp .lt off)) (ht : (pc : Int) + off = (tgt : Int)) {x y : Int32} (kt : x < y → Go M R E (tgt, lv, st, w)) (kf : ¬ x < y → Go M R E (pc + 3, lv, st, w)) : Go M R E (pc, lv, .int y :: .int x :: st, w) := by
  have h9 := hq.at2 i h rfl
  exact Go.icmp_lt tgt h9 ht kt kf
theorem Tc_ge (hq : gDec M.2.1 L) (i : Nat) (off : Int) (tgt : Nat) (h : L[i]? = some (pc, .if_icmp .ge off)) (ht : (pc : Int) + off = (tgt : Int)) {x y : Int32} (kt : y ≤ x → Go M R E (tgt, lv, st, w)) (kf : ¬ y ≤ x → Go M R E (pc + 3, lv, st, w)) : Go M R E (pc, lv, .int y :: .int x :: st, w) := by
  have h9 := hq.at2 i h rfl
  exact Go.icmp_ge tgt h9 ht kt kf
theorem Tc_gt (hq : gDec M.2.1 L) (i : Nat) (off : Int) (tgt : Nat) (h : L[i]? = some (pc, .if_icmp .gt off)) (ht : (pc : Int) + off = (tgt : Int)) {x y : Int32} (kt : y < x → Go M R E (tgt, lv, st, w)) (kf : ¬ y < x → Go M R E (pc + 3, lv, st, w)) : Go M R E (pc, lv, .int y :: .int x :: st, w) := by
  have h9 := hq.at2 i h rfl
  exact Go.icmp_gt tgt h9 ht kt kf
theorem Tc_le (hq : gDec M.2.1 L) (i : Nat) (off : Int) (tgt : Nat) (h : L[i]? = some (pc, .if_icmp .le off)) (ht : (pc : Int) + off = (tgt : Int)) {x y : Int32} (kt : x ≤ y → Go M R E (tgt, lv, st, w)) (kf : ¬ x ≤ y → Go M R E (pc + 3, lv, st, w)) : Go M R E (pc, lv, .int y :: .int x :: st, w) := by
  have h9 := hq.at2 i h rfl
  exact Go.icmp_le tgt h9 ht kt kf
theorem Tc_eq (hq : gDec M.2.1 L) (i : Nat) (off : Int) (tgt : Nat) (h : L[i]? = some (pc, .if_icmp .eq off)) (ht : (pc : Int) + off = (tgt : Int)) {x y : Int32} (kt : x = y → Go M R E (tgt, lv, st, w)) (kf : ¬ x = y → Go M R E (pc + 3, lv, st, w)) : Go M R E (pc, lv, .int y :: .int x :: st, w) := by
  have h9 := hq.at2 i h rfl
  exact Go.icmp_eq tgt h9 ht kt kf
theorem Tc_ne (hq : gDec M.2.1 L) (i : Nat) (off : Int) (tgt : Nat) (h : L[i]? = some (pc, .if_icmp .ne off)) (ht : (pc : Int) + off = (tgt : Int)) {x y : Int32} (kt : ¬ x = y → Go M R E (tgt, lv, st, w)) (kf : x = y → Go M R E (pc + 3, lv, st, w)) : Go M R E (pc, lv, .int y :: .int x :: st, w) := by
  have h9 := hq.at2 i h rfl
  exact Go.icmp_ne tgt h9 ht kt kf
theorem Tn_y (hq : gDec M.2.1 L) (i : Nat) (off : Int) (tgt : Nat) (h : L[i]? = some (pc, .ifnull off)) (ht : (pc : Int) + off = (tgt : Int)) (k : Go M R E (tgt, lv, st, w)) : Go M R E (pc, lv, .null :: st, w) := by
  have h9 := hq.at2 i h rfl
  exact Go.ifnull_y tgt h9 ht k
theorem Tn_n (hq : gDec M.2.1 L) (i : Nat) (off : Int) (h : L[i]? = some (pc, .ifnull off)) {a : Nat} (k : Go M R E (pc + 3, lv, st, w)) : Go M R E (pc, lv, .ref a :: st, w) := by
  have h9 := hq.at2 i h rfl
  exact Go.ifnull_n h9 k
theorem To_n (hq : gDec M.2.1 L) (i : Nat) (off : Int) (h : L[i]? = some (pc, .ifnonnull off)) (k : Go M R E (pc + 3, lv, st, w)) : Go M R E (pc, lv, .null :: st, w) := by
  have h9 := hq.at2 i h rfl
  exact Go.ifnonnull_n h9 k
theorem To_y (hq : gDec M.2.1 L) (i : Nat) (off : Int) (tgt : Nat) (h : L[i]? = some (pc, .ifnonnull off)) (ht : (pc : Int) + off = (tgt : Int)) {a : Nat} (k : Go M R E (tgt, lv, st, w)) : Go M R E (pc, lv, .ref a :: st, w) := by
  have h9 := hq.at2 i h rfl
  exact Go.ifnonnull_y tgt h9 ht k
/-- the ends -/
theorem Tr_i {Q : Option Value → gW → Prop} (hq : gDec M.2.1 L) (i : Nat) (h : L[i]? = some (pc, .ireturn)) (hr : M.2.2.2 = some .int) {v : Int32} (hv : Q (some (.int v)) w) : Go M R (gRet M Q) (pc, lv, [.int v], w) := by
  refine Go.exit ?_
  unfold gRet
  rw [hr]
  have h9 := hq.at2 i h rfl
  exact ⟨h9, hv⟩
theorem Tr_z {Q : Option Value → gW → Prop} (hq : gDec M.2.1 L) (i : Nat) (h : L[i]? = some (pc, .ireturn)) (hr : M.2.2.2 = some .boolean) {v : Int32} (hz : v &&& 1 = v) (hv : Q (some (.int v)) w) : Go M R (gRet M Q) (pc, lv, [.int v], w) := by
  refine Go.exit ?_
  unfold gRet
  rw [hr]
  have h9 := hq.at2 i h rfl
  exact ⟨h9, hz, hv⟩
theorem Tr_l {Q : Option Value → gW → Prop} (hq : gDec M.2.1 L) (i : Nat) (h : L[i]? = some (pc, .lreturn)) (hr : M.2.2.2 = some .long) {v : Int64} (hv : Q (some (.long v)) w) : Go M R (gRet M Q) (pc, lv, [.long v], w) := by
  refine Go.exit ?_
  unfold gRet
  rw [hr]
  have h9 := hq.at2 i h rfl
  exact ⟨h9, hv⟩
theorem Tr_v {Q : Option Value → gW → Prop} (hq : gDec M.2.1 L) (i : Nat) (h : L[i]? = some (pc, .return_)) (hr : M.2.2.2 = none) (hv : Q none w) : Go M R (gRet M Q) (pc, lv, [], w) := by
  refine Go.exit ?_
  unfold gRet
  rw [hr]
  have h9 := hq.at2 i h rfl
  exact ⟨h9, hv⟩
theorem Tr_a {Q : Option Value → gW → Prop} (hq : gDec M.2.1 L) (i : Nat) (h : L[i]? = some (pc, .areturn)) {C : String} (hr : M.2.2.2 = some (.object C)) {a : Nat} (hv : Q (some (.ref a)) w) : Go M R (gRet M Q) (pc, lv, [.ref a], w) := by
  refine Go.exit ?_
  unfold gRet
  rw [hr]
  have h9 := hq.at2 i h rfl
  exact ⟨h9, hv⟩
theorem Tr_n {Q : Option Value → gW → Prop} (hq : gDec M.2.1 L) (i : Nat) (h : L[i]? = some (pc, .areturn)) {C : String} (hr : M.2.2.2 = some (.object C)) (hv : Q (some .null) w) : Go M R (gRet M Q) (pc, lv, [.null], w) := by
  refine Go.exit ?_
  unfold gRet
  rw [hr]
  have h9 := hq.at2 i h rfl
  exact ⟨h9, hv⟩
/-- calls: the stack and the world behind it are told, and checked -/
theorem Tk_s (hq : gDec M.2.1 L) (i : Nat) (h : L[i]? = some (pc, .invokestatic idx)) (hC : Cd M' R' av w2 rr w3) (hL : gLS M.1.cls idx M' n) (r : Nat → Nat) (is : List Nat) (hs : is.map (fun i => w[i]?) = (w2.map (gren r)).map some) (hnd : va_nd is = true) (hk3 : w3.map (fun q => q.1) = w2.map (fun q => q.1)) (hn : av.length = n) (hR : gRoom R R' M'.2.2.1) {st0 : List Value} (st : List Value) (hst : st0 = (av.map (gv r)).reverse ++ st) (hW : (st.map fun v => v.category).sum ≤ 8) (st1 : List Value) (hst1 : (rr.map (gv r)).toList ++ st = st1) (w1 : gW) (hw1 : gput w is (w3.map (gren r)) = w1) (k : Go M R E (pc + 3, lv, st1, w1)) : Go M R E (pc, lv, st0, w) := by
  subst hst; subst hst1; subst hw1
  have h9 := hq.at2 i h rfl
  exact Go.callS hC hL r is hs hnd hk3 hn hR hW h9 k
theorem Tk_n (hq : gDec M.2.1 L) (i : Nat) (h : L[i]? = some (pc, .invokestatic idx)) (hC : Cd M' R' av w2 rr w3) {host : String} (hL : gLN M.1.cls idx host M' n) (r : Nat → Nat) (is : List Nat) (hs : is.map (fun i => w[i]?) = (w2.map (gren r)).map some) (hnd : va_nd is = true) (hk3 : w3.map (fun q => q.1) = w2.map (fun q => q.1)) (hn : av.length = n) (hR : gRoom R R' M'.2.2.1) {st0 : List Value} (st : List Value) (hst : st0 = (av.map (gv r)).reverse ++ st) (hW : (st.map fun v => v.category).sum ≤ 8) (st1 : List Value) (hst1 : (rr.map (gv r)).toList ++ st = st1) (w1 : gW) (hw1 : gput w is (w3.map (gren r)) = w1) (k : Go M R E (pc + 3, lv, st1, w1)) : Go M R E (pc, lv, st0, w) := by
  subst hst; subst hst1; subst hw1
  have h9 := hq.at2 i h rfl
  exact Go.callN hC hL r is hs hnd hk3 hn hR hW h9 k
theorem Tk_v (hq : gDec M.2.1 L) (i : Nat) (h : L[i]? = some (pc, .invokevirtual idx)) {b ci : Nat} {fs : List Value} (hC : Cd M' R' (.ref b :: av) w2 rr w3) {C : String} (hL : gLV M.1.cls idx C M' n) {T : u_T} {N : Nat} (j : Nat) (hb : w2[j]? = some (b, .inr (ci, fs))) (hci : vwCl[ci]? = some (C, T, N)) (r : Nat → Nat) (is : List Nat) (hs : is.map (fun i => w[i]?) = (w2.map (gren r)).map some) (hnd : va_nd is = true) (hk3 : w3.map (fun q => q.1) = w2.map (fun q => q.1)) (hn : av.length = n) (hR : gRoom R R' M'.2.2.1) {st0 : List Value} (st : List Value) (hst : st0 = (av.map (gv r)).reverse ++ .ref (r b) :: st) (hW : (st.map fun v => v.category).sum ≤ 8) (st1 : List Value) (hst1 : (rr.map (gv r)).toList ++ st = st1) (w1 : gW) (hw1 : gput w is (w3.map (gren r)) = w1) (k : Go M R E (pc + 3, lv, st1, w1)) : Go M R E (pc, lv, st0, w) := by
  subst hst; subst hst1; subst hw1
  have h9 := hq.at2 i h rfl
  exact Go.callV hC hL j hb hci r is hs hnd hk3 hn hR hW h9 k
theorem Tk_u (hq : gDec M.2.1 L) (i : Nat) (h : L[i]? = some (pc, .invokevirtual idx)) {b ci : Nat} {fs : List Value} (hC : Cd M' R' (.ref b :: av) w2 rr w3) {C : String} {x : MethodName} (hL : gLU M.1.cls idx C x M' n) {T : u_T} {N : Nat} (j : Nat) (hb : w2[j]? = some (b, .inr (ci, fs))) (hci : vwCl[ci]? = some (C, T, N)) (r : Nat → Nat) (is : List Nat) (hs : is.map (fun i => w[i]?) = (w2.map (gren r)).map some) (hnd : va_nd is = true) (hk3 : w3.map (fun q => q.1) = w2.map (fun q => q.1)) (hn : av.length = n) (hR : gRoom R R' M'.2.2.1) {st0 : List Value} (st : List Value) (hst : st0 = (av.map (gv r)).reverse ++ .ref (r b) :: st) (hW : (st.map fun v => v.category).sum ≤ 8) (st1 : List Value) (hst1 : (rr.map (gv r)).toList ++ st = st1) (w1 : gW) (hw1 : gput w is (w3.map (gren r)) = w1) (k : Go M R E (pc + 3, lv, st1, w1)) : Go M R E (pc, lv, st0, w) := by
  subst hst; subst hst1; subst hw1
  have h9 := hq.at2 i h rfl
  exact Go.callU hC hL j hb hci r is hs hnd hk3 hn hR hW h9 k
end TableRules
theorem gif {c : Prop} [Decidable c] {α : Type} {x : Option α} {r : α} (h : (if c then x else none) = some r) : c ∧ x = some r := by
  by_cases hc : c
  · rw [if_pos hc] at h
    exact ⟨hc, h⟩
  · rw [if_neg hc] at h
    cases h
theorem gbind {α β : Type} {x : Option α} {f : α → Option β} {r : β} (h : x.bind f = some r) : ∃ a, x = some a ∧ f a = some r := by
  cases x with
  | none => cases h
  | some a => exact ⟨a, rfl, h⟩
end
