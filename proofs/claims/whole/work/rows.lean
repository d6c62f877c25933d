section
/-- a private method of a class that the tables say can be made, by its rows of tables_1 -/
def lw_okq (q : MethodName × Nat) : Prop := (q.1.cls ≠ "java/lang/invoke/MethodHandle" ∧ q.1.cls ≠ "java/lang/invoke/VarHandle") ∧ Cond.instantiable q.1.cls q.2 ∈ tables_1 ∧ Cond.privateMethod q.1 ∈ tables_1 ∧ Cond.instanceMethod q.1 ∈ tables_1
theorem lw_p0 : lw_okq (⟨"GuardCore", "isWordPlace", "(I)Z"⟩, 4) := ⟨⟨by decide +kernel, by decide +kernel⟩, List.mem_of_getElem? (i := 18) (by decide +kernel), List.mem_of_getElem? (i := 192) (by decide +kernel), List.mem_of_getElem? (i := 193) (by decide +kernel)⟩
theorem lw_p1 : lw_okq (⟨"GuardCore$State", "enter", "(JI)V"⟩, 4) := ⟨⟨by decide +kernel, by decide +kernel⟩, List.mem_of_getElem? (i := 37) (by decide +kernel), List.mem_of_getElem? (i := 275) (by decide +kernel), List.mem_of_getElem? (i := 276) (by decide +kernel)⟩
theorem lw_p2 : lw_okq (⟨"GuardCore$State", "tell", "(II)V"⟩, 4) := ⟨⟨by decide +kernel, by decide +kernel⟩, List.mem_of_getElem? (i := 37) (by decide +kernel), List.mem_of_getElem? (i := 291) (by decide +kernel), List.mem_of_getElem? (i := 292) (by decide +kernel)⟩
theorem lw_p3 : lw_okq (⟨"GuardCore$Walk", "translated", "(JII)J"⟩, 2) := ⟨⟨by decide +kernel, by decide +kernel⟩, List.mem_of_getElem? (i := 56) (by decide +kernel), List.mem_of_getElem? (i := 305) (by decide +kernel), List.mem_of_getElem? (i := 306) (by decide +kernel)⟩
theorem lw_p4 : lw_okq (⟨"GuardCore$Accesses", "stackIsCrooked", "(I)Z"⟩, 3) := ⟨⟨by decide +kernel, by decide +kernel⟩, List.mem_of_getElem? (i := 111) (by decide +kernel), List.mem_of_getElem? (i := 339) (by decide +kernel), List.mem_of_getElem? (i := 340) (by decide +kernel)⟩
theorem lw_p5 : lw_okq (⟨"GuardCore$State", "stack", "()I"⟩, 4) := ⟨⟨by decide +kernel, by decide +kernel⟩, List.mem_of_getElem? (i := 37) (by decide +kernel), List.mem_of_getElem? (i := 347) (by decide +kernel), List.mem_of_getElem? (i := 348) (by decide +kernel)⟩
theorem lw_p6 : lw_okq (⟨"GuardCore$Accesses", "find", "(JIZ)I"⟩, 3) := ⟨⟨by decide +kernel, by decide +kernel⟩, List.mem_of_getElem? (i := 111) (by decide +kernel), List.mem_of_getElem? (i := 360) (by decide +kernel), List.mem_of_getElem? (i := 361) (by decide +kernel)⟩
theorem lw_p7 : lw_okq (⟨"GuardCore$Registers", "right", "(I)J"⟩, 2) := ⟨⟨by decide +kernel, by decide +kernel⟩, List.mem_of_getElem? (i := 98) (by decide +kernel), List.mem_of_getElem? (i := 397) (by decide +kernel), List.mem_of_getElem? (i := 398) (by decide +kernel)⟩
theorem lw_p8 : lw_okq (⟨"GuardCore$Registers", "left", "(I)J"⟩, 2) := ⟨⟨by decide +kernel, by decide +kernel⟩, List.mem_of_getElem? (i := 98) (by decide +kernel), List.mem_of_getElem? (i := 415) (by decide +kernel), List.mem_of_getElem? (i := 416) (by decide +kernel)⟩
theorem lw_p9 : lw_okq (⟨"GuardCore$Registers", "put", "(IJ)Z"⟩, 2) := ⟨⟨by decide +kernel, by decide +kernel⟩, List.mem_of_getElem? (i := 98) (by decide +kernel), List.mem_of_getElem? (i := 429) (by decide +kernel), List.mem_of_getElem? (i := 430) (by decide +kernel)⟩
theorem lw_p10 : lw_okq (⟨"GuardCore$Processor", "performsBranch", "()Z"⟩, 9) := ⟨⟨by decide +kernel, by decide +kernel⟩, List.mem_of_getElem? (i := 69) (by decide +kernel), List.mem_of_getElem? (i := 495) (by decide +kernel), List.mem_of_getElem? (i := 496) (by decide +kernel)⟩
theorem lw_p11 : lw_okq (⟨"GuardCore$Branches", "jump", "(ZJ)Z"⟩, 1) := ⟨⟨by decide +kernel, by decide +kernel⟩, List.mem_of_getElem? (i := 127) (by decide +kernel), List.mem_of_getElem? (i := 507) (by decide +kernel), List.mem_of_getElem? (i := 508) (by decide +kernel)⟩
theorem lw_p12 : lw_okq (⟨"GuardCore$Processor", "performsControl", "()Z"⟩, 9) := ⟨⟨by decide +kernel, by decide +kernel⟩, List.mem_of_getElem? (i := 69) (by decide +kernel), List.mem_of_getElem? (i := 527) (by decide +kernel), List.mem_of_getElem? (i := 528) (by decide +kernel)⟩
theorem lw_p13 : lw_okq (⟨"GuardCore$Accesses", "offset", "(I)J"⟩, 3) := ⟨⟨by decide +kernel, by decide +kernel⟩, List.mem_of_getElem? (i := 111) (by decide +kernel), List.mem_of_getElem? (i := 601) (by decide +kernel), List.mem_of_getElem? (i := 602) (by decide +kernel)⟩
theorem lw_p14 : lw_okq (⟨"GuardCore$Processor", "performsRegisters", "()Z"⟩, 9) := ⟨⟨by decide +kernel, by decide +kernel⟩, List.mem_of_getElem? (i := 69) (by decide +kernel), List.mem_of_getElem? (i := 612) (by decide +kernel), List.mem_of_getElem? (i := 613) (by decide +kernel)⟩
theorem lw_p15 : lw_okq (⟨"GuardCoreModel", "bytes", "(II)J"⟩, 16) := ⟨⟨by decide +kernel, by decide +kernel⟩, List.mem_of_getElem? (i := 699) (by decide +kernel), List.mem_of_getElem? (i := 765) (by decide +kernel), List.mem_of_getElem? (i := 766) (by decide +kernel)⟩
def lw_privs_1 : List (MethodName × Nat) := [(⟨"GuardCore", "isWordPlace", "(I)Z"⟩, 4), (⟨"GuardCore$State", "enter", "(JI)V"⟩, 4), (⟨"GuardCore$State", "tell", "(II)V"⟩, 4), (⟨"GuardCore$Walk", "translated", "(JII)J"⟩, 2), (⟨"GuardCore$Accesses", "stackIsCrooked", "(I)Z"⟩, 3), (⟨"GuardCore$State", "stack", "()I"⟩, 4), (⟨"GuardCore$Accesses", "find", "(JIZ)I"⟩, 3), (⟨"GuardCore$Registers", "right", "(I)J"⟩, 2), (⟨"GuardCore$Registers", "left", "(I)J"⟩, 2), (⟨"GuardCore$Registers", "put", "(IJ)Z"⟩, 2), (⟨"GuardCore$Processor", "performsBranch", "()Z"⟩, 9), (⟨"GuardCore$Branches", "jump", "(ZJ)Z"⟩, 1), (⟨"GuardCore$Processor", "performsControl", "()Z"⟩, 9), (⟨"GuardCore$Accesses", "offset", "(I)J"⟩, 3), (⟨"GuardCore$Processor", "performsRegisters", "()Z"⟩, 9), (⟨"GuardCoreModel", "bytes", "(II)J"⟩, 16)]
theorem lw_r1 : ∀ q ∈ lw_privs_1, lw_okq q := List.forall_mem_cons.mpr ⟨lw_p0, List.forall_mem_cons.mpr ⟨lw_p1, List.forall_mem_cons.mpr ⟨lw_p2, List.forall_mem_cons.mpr ⟨lw_p3, List.forall_mem_cons.mpr ⟨lw_p4, List.forall_mem_cons.mpr ⟨lw_p5, List.forall_mem_cons.mpr ⟨lw_p6, List.forall_mem_cons.mpr ⟨lw_p7, List.forall_mem_cons.mpr ⟨lw_p8, List.forall_mem_cons.mpr ⟨lw_p9, List.forall_mem_cons.mpr ⟨lw_p10, List.forall_mem_cons.mpr ⟨lw_p11, List.forall_mem_cons.mpr ⟨lw_p12, List.forall_mem_cons.mpr ⟨lw_p13, List.forall_mem_cons.mpr ⟨lw_p14, List.forall_mem_cons.mpr ⟨lw_p15, fun _ h => absurd h List.not_mem_nil⟩⟩⟩⟩⟩⟩⟩⟩⟩⟩⟩⟩⟩⟩⟩⟩
theorem lw_p16 : lw_okq (⟨"GuardCoreModel", "part", "(I)J"⟩, 16) := ⟨⟨by decide +kernel, by decide +kernel⟩, List.mem_of_getElem? (i := 699) (by decide +kernel), List.mem_of_getElem? (i := 778) (by decide +kernel), List.mem_of_getElem? (i := 779) (by decide +kernel)⟩
theorem lw_p17 : lw_okq (⟨"GuardCoreModel", "oneStep", "()V"⟩, 16) := ⟨⟨by decide +kernel, by decide +kernel⟩, List.mem_of_getElem? (i := 699) (by decide +kernel), List.mem_of_getElem? (i := 794) (by decide +kernel), List.mem_of_getElem? (i := 795) (by decide +kernel)⟩
theorem lw_p18 : lw_okq (⟨"GuardCoreModel", "enters", "(JZ)V"⟩, 16) := ⟨⟨by decide +kernel, by decide +kernel⟩, List.mem_of_getElem? (i := 699) (by decide +kernel), List.mem_of_getElem? (i := 798) (by decide +kernel), List.mem_of_getElem? (i := 799) (by decide +kernel)⟩
theorem lw_p19 : lw_okq (⟨"GuardCoreModel", "exception", "(IJJ)V"⟩, 16) := ⟨⟨by decide +kernel, by decide +kernel⟩, List.mem_of_getElem? (i := 699) (by decide +kernel), List.mem_of_getElem? (i := 808) (by decide +kernel), List.mem_of_getElem? (i := 809) (by decide +kernel)⟩
theorem lw_p20 : lw_okq (⟨"GuardCoreModel", "leads", "(JII)Z"⟩, 16) := ⟨⟨by decide +kernel, by decide +kernel⟩, List.mem_of_getElem? (i := 699) (by decide +kernel), List.mem_of_getElem? (i := 813) (by decide +kernel), List.mem_of_getElem? (i := 814) (by decide +kernel)⟩
theorem lw_p21 : lw_okq (⟨"GuardCoreModel", "wrong", "(I)Z"⟩, 16) := ⟨⟨by decide +kernel, by decide +kernel⟩, List.mem_of_getElem? (i := 699) (by decide +kernel), List.mem_of_getElem? (i := 823) (by decide +kernel), List.mem_of_getElem? (i := 824) (by decide +kernel)⟩
theorem lw_p22 : lw_okq (⟨"GuardCoreModel", "inside", "(I)Z"⟩, 16) := ⟨⟨by decide +kernel, by decide +kernel⟩, List.mem_of_getElem? (i := 699) (by decide +kernel), List.mem_of_getElem? (i := 832) (by decide +kernel), List.mem_of_getElem? (i := 833) (by decide +kernel)⟩
theorem lw_p23 : lw_okq (⟨"GuardCoreModel", "does", "()V"⟩, 16) := ⟨⟨by decide +kernel, by decide +kernel⟩, List.mem_of_getElem? (i := 699) (by decide +kernel), List.mem_of_getElem? (i := 836) (by decide +kernel), List.mem_of_getElem? (i := 837) (by decide +kernel)⟩
theorem lw_p24 : lw_okq (⟨"GuardCoreModel", "f", "(II)I"⟩, 16) := ⟨⟨by decide +kernel, by decide +kernel⟩, List.mem_of_getElem? (i := 699) (by decide +kernel), List.mem_of_getElem? (i := 840) (by decide +kernel), List.mem_of_getElem? (i := 841) (by decide +kernel)⟩
theorem lw_p25 : lw_okq (⟨"GuardCoreModel", "number", "()V"⟩, 16) := ⟨⟨by decide +kernel, by decide +kernel⟩, List.mem_of_getElem? (i := 699) (by decide +kernel), List.mem_of_getElem? (i := 844) (by decide +kernel), List.mem_of_getElem? (i := 845) (by decide +kernel)⟩
theorem lw_p26 : lw_okq (⟨"GuardCoreModel", "width", "()I"⟩, 16) := ⟨⟨by decide +kernel, by decide +kernel⟩, List.mem_of_getElem? (i := 699) (by decide +kernel), List.mem_of_getElem? (i := 848) (by decide +kernel), List.mem_of_getElem? (i := 849) (by decide +kernel)⟩
theorem lw_p27 : lw_okq (⟨"GuardCoreModel", "on", "(I)Z"⟩, 16) := ⟨⟨by decide +kernel, by decide +kernel⟩, List.mem_of_getElem? (i := 699) (by decide +kernel), List.mem_of_getElem? (i := 852) (by decide +kernel), List.mem_of_getElem? (i := 853) (by decide +kernel)⟩
theorem lw_p28 : lw_okq (⟨"GuardCoreModel", "regOrPointer", "(I)J"⟩, 16) := ⟨⟨by decide +kernel, by decide +kernel⟩, List.mem_of_getElem? (i := 699) (by decide +kernel), List.mem_of_getElem? (i := 857) (by decide +kernel), List.mem_of_getElem? (i := 858) (by decide +kernel)⟩
theorem lw_p29 : lw_okq (⟨"GuardCoreModel", "pointer", "()I"⟩, 16) := ⟨⟨by decide +kernel, by decide +kernel⟩, List.mem_of_getElem? (i := 699) (by decide +kernel), List.mem_of_getElem? (i := 861) (by decide +kernel), List.mem_of_getElem? (i := 862) (by decide +kernel)⟩
theorem lw_p30 : lw_okq (⟨"GuardCoreModel", "sum", "(JJII)J"⟩, 16) := ⟨⟨by decide +kernel, by decide +kernel⟩, List.mem_of_getElem? (i := 699) (by decide +kernel), List.mem_of_getElem? (i := 869) (by decide +kernel), List.mem_of_getElem? (i := 870) (by decide +kernel)⟩
theorem lw_p31 : lw_okq (⟨"GuardCoreModel", "signs", "(JIII)V"⟩, 16) := ⟨⟨by decide +kernel, by decide +kernel⟩, List.mem_of_getElem? (i := 699) (by decide +kernel), List.mem_of_getElem? (i := 873) (by decide +kernel), List.mem_of_getElem? (i := 874) (by decide +kernel)⟩
def lw_privs_2 : List (MethodName × Nat) := [(⟨"GuardCoreModel", "part", "(I)J"⟩, 16), (⟨"GuardCoreModel", "oneStep", "()V"⟩, 16), (⟨"GuardCoreModel", "enters", "(JZ)V"⟩, 16), (⟨"GuardCoreModel", "exception", "(IJJ)V"⟩, 16), (⟨"GuardCoreModel", "leads", "(JII)Z"⟩, 16), (⟨"GuardCoreModel", "wrong", "(I)Z"⟩, 16), (⟨"GuardCoreModel", "inside", "(I)Z"⟩, 16), (⟨"GuardCoreModel", "does", "()V"⟩, 16), (⟨"GuardCoreModel", "f", "(II)I"⟩, 16), (⟨"GuardCoreModel", "number", "()V"⟩, 16), (⟨"GuardCoreModel", "width", "()I"⟩, 16), (⟨"GuardCoreModel", "on", "(I)Z"⟩, 16), (⟨"GuardCoreModel", "regOrPointer", "(I)J"⟩, 16), (⟨"GuardCoreModel", "pointer", "()I"⟩, 16), (⟨"GuardCoreModel", "sum", "(JJII)J"⟩, 16), (⟨"GuardCoreModel", "signs", "(JIII)V"⟩, 16)]
theorem lw_r2 : ∀ q ∈ lw_privs_2, lw_okq q := List.forall_mem_cons.mpr ⟨lw_p16, List.forall_mem_cons.mpr ⟨lw_p17, List.forall_mem_cons.mpr ⟨lw_p18, List.forall_mem_cons.mpr ⟨lw_p19, List.forall_mem_cons.mpr ⟨lw_p20, List.forall_mem_cons.mpr ⟨lw_p21, List.forall_mem_cons.mpr ⟨lw_p22, List.forall_mem_cons.mpr ⟨lw_p23, List.forall_mem_cons.mpr ⟨lw_p24, List.forall_mem_cons.mpr ⟨lw_p25, List.forall_mem_cons.mpr ⟨lw_p26, List.forall_mem_cons.mpr ⟨lw_p27, List.forall_mem_cons.mpr ⟨lw_p28, List.forall_mem_cons.mpr ⟨lw_p29, List.forall_mem_cons.mpr ⟨lw_p30, List.forall_mem_cons.mpr ⟨lw_p31, fun _ h => absurd h List.not_mem_nil⟩⟩⟩⟩⟩⟩⟩⟩⟩⟩⟩⟩⟩⟩⟩⟩
theorem lw_p32 : lw_okq (⟨"GuardCoreModel", "put", "(IJ)V"⟩, 16) := ⟨⟨by decide +kernel, by decide +kernel⟩, List.mem_of_getElem? (i := 699) (by decide +kernel), List.mem_of_getElem? (i := 877) (by decide +kernel), List.mem_of_getElem? (i := 878) (by decide +kernel)⟩
theorem lw_p33 : lw_okq (⟨"GuardCoreModel", "putOrPointer", "(IJ)V"⟩, 16) := ⟨⟨by decide +kernel, by decide +kernel⟩, List.mem_of_getElem? (i := 699) (by decide +kernel), List.mem_of_getElem? (i := 881) (by decide +kernel), List.mem_of_getElem? (i := 882) (by decide +kernel)⟩
theorem lw_p34 : lw_okq (⟨"GuardCoreModel", "sums", "()V"⟩, 16) := ⟨⟨by decide +kernel, by decide +kernel⟩, List.mem_of_getElem? (i := 699) (by decide +kernel), List.mem_of_getElem? (i := 885) (by decide +kernel), List.mem_of_getElem? (i := 886) (by decide +kernel)⟩
theorem lw_p35 : lw_okq (⟨"GuardCoreModel", "none", "()V"⟩, 16) := ⟨⟨by decide +kernel, by decide +kernel⟩, List.mem_of_getElem? (i := 699) (by decide +kernel), List.mem_of_getElem? (i := 889) (by decide +kernel), List.mem_of_getElem? (i := 890) (by decide +kernel)⟩
theorem lw_p36 : lw_okq (⟨"GuardCoreModel", "reg", "(I)J"⟩, 16) := ⟨⟨by decide +kernel, by decide +kernel⟩, List.mem_of_getElem? (i := 699) (by decide +kernel), List.mem_of_getElem? (i := 893) (by decide +kernel), List.mem_of_getElem? (i := 894) (by decide +kernel)⟩
theorem lw_p37 : lw_okq (⟨"GuardCoreModel", "logic", "()V"⟩, 16) := ⟨⟨by decide +kernel, by decide +kernel⟩, List.mem_of_getElem? (i := 699) (by decide +kernel), List.mem_of_getElem? (i := 900) (by decide +kernel), List.mem_of_getElem? (i := 901) (by decide +kernel)⟩
theorem lw_p38 : lw_okq (⟨"GuardCoreModel", "joined", "(IJJ)J"⟩, 16) := ⟨⟨by decide +kernel, by decide +kernel⟩, List.mem_of_getElem? (i := 699) (by decide +kernel), List.mem_of_getElem? (i := 904) (by decide +kernel), List.mem_of_getElem? (i := 905) (by decide +kernel)⟩
theorem lw_p39 : lw_okq (⟨"GuardCoreModel", "masks", "()V"⟩, 16) := ⟨⟨by decide +kernel, by decide +kernel⟩, List.mem_of_getElem? (i := 699) (by decide +kernel), List.mem_of_getElem? (i := 908) (by decide +kernel), List.mem_of_getElem? (i := 909) (by decide +kernel)⟩
theorem lw_p40 : lw_okq (⟨"GuardCoreModel", "move", "()V"⟩, 16) := ⟨⟨by decide +kernel, by decide +kernel⟩, List.mem_of_getElem? (i := 699) (by decide +kernel), List.mem_of_getElem? (i := 912) (by decide +kernel), List.mem_of_getElem? (i := 913) (by decide +kernel)⟩
theorem lw_p41 : lw_okq (⟨"GuardCoreModel", "placeOf", "()V"⟩, 16) := ⟨⟨by decide +kernel, by decide +kernel⟩, List.mem_of_getElem? (i := 699) (by decide +kernel), List.mem_of_getElem? (i := 917) (by decide +kernel), List.mem_of_getElem? (i := 918) (by decide +kernel)⟩
theorem lw_p42 : lw_okq (⟨"GuardCoreModel", "bitsOf", "()V"⟩, 16) := ⟨⟨by decide +kernel, by decide +kernel⟩, List.mem_of_getElem? (i := 699) (by decide +kernel), List.mem_of_getElem? (i := 925) (by decide +kernel), List.mem_of_getElem? (i := 926) (by decide +kernel)⟩
theorem lw_p43 : lw_okq (⟨"GuardCoreModel", "twice", "()V"⟩, 16) := ⟨⟨by decide +kernel, by decide +kernel⟩, List.mem_of_getElem? (i := 699) (by decide +kernel), List.mem_of_getElem? (i := 929) (by decide +kernel), List.mem_of_getElem? (i := 930) (by decide +kernel)⟩
theorem lw_p44 : lw_okq (⟨"GuardCoreModel", "choose", "()V"⟩, 16) := ⟨⟨by decide +kernel, by decide +kernel⟩, List.mem_of_getElem? (i := 699) (by decide +kernel), List.mem_of_getElem? (i := 933) (by decide +kernel), List.mem_of_getElem? (i := 934) (by decide +kernel)⟩
theorem lw_p45 : lw_okq (⟨"GuardCoreModel", "holds", "(I)Z"⟩, 16) := ⟨⟨by decide +kernel, by decide +kernel⟩, List.mem_of_getElem? (i := 699) (by decide +kernel), List.mem_of_getElem? (i := 937) (by decide +kernel), List.mem_of_getElem? (i := 938) (by decide +kernel)⟩
theorem lw_p46 : lw_okq (⟨"GuardCoreModel", "compare", "()V"⟩, 16) := ⟨⟨by decide +kernel, by decide +kernel⟩, List.mem_of_getElem? (i := 699) (by decide +kernel), List.mem_of_getElem? (i := 941) (by decide +kernel), List.mem_of_getElem? (i := 942) (by decide +kernel)⟩
theorem lw_p47 : lw_okq (⟨"GuardCoreModel", "times", "()V"⟩, 16) := ⟨⟨by decide +kernel, by decide +kernel⟩, List.mem_of_getElem? (i := 699) (by decide +kernel), List.mem_of_getElem? (i := 945) (by decide +kernel), List.mem_of_getElem? (i := 946) (by decide +kernel)⟩
def lw_privs_3 : List (MethodName × Nat) := [(⟨"GuardCoreModel", "put", "(IJ)V"⟩, 16), (⟨"GuardCoreModel", "putOrPointer", "(IJ)V"⟩, 16), (⟨"GuardCoreModel", "sums", "()V"⟩, 16), (⟨"GuardCoreModel", "none", "()V"⟩, 16), (⟨"GuardCoreModel", "reg", "(I)J"⟩, 16), (⟨"GuardCoreModel", "logic", "()V"⟩, 16), (⟨"GuardCoreModel", "joined", "(IJJ)J"⟩, 16), (⟨"GuardCoreModel", "masks", "()V"⟩, 16), (⟨"GuardCoreModel", "move", "()V"⟩, 16), (⟨"GuardCoreModel", "placeOf", "()V"⟩, 16), (⟨"GuardCoreModel", "bitsOf", "()V"⟩, 16), (⟨"GuardCoreModel", "twice", "()V"⟩, 16), (⟨"GuardCoreModel", "choose", "()V"⟩, 16), (⟨"GuardCoreModel", "holds", "(I)Z"⟩, 16), (⟨"GuardCoreModel", "compare", "()V"⟩, 16), (⟨"GuardCoreModel", "times", "()V"⟩, 16)]
theorem lw_r3 : ∀ q ∈ lw_privs_3, lw_okq q := List.forall_mem_cons.mpr ⟨lw_p32, List.forall_mem_cons.mpr ⟨lw_p33, List.forall_mem_cons.mpr ⟨lw_p34, List.forall_mem_cons.mpr ⟨lw_p35, List.forall_mem_cons.mpr ⟨lw_p36, List.forall_mem_cons.mpr ⟨lw_p37, List.forall_mem_cons.mpr ⟨lw_p38, List.forall_mem_cons.mpr ⟨lw_p39, List.forall_mem_cons.mpr ⟨lw_p40, List.forall_mem_cons.mpr ⟨lw_p41, List.forall_mem_cons.mpr ⟨lw_p42, List.forall_mem_cons.mpr ⟨lw_p43, List.forall_mem_cons.mpr ⟨lw_p44, List.forall_mem_cons.mpr ⟨lw_p45, List.forall_mem_cons.mpr ⟨lw_p46, List.forall_mem_cons.mpr ⟨lw_p47, fun _ h => absurd h List.not_mem_nil⟩⟩⟩⟩⟩⟩⟩⟩⟩⟩⟩⟩⟩⟩⟩⟩
theorem lw_p48 : lw_okq (⟨"GuardCoreModel", "highOf", "()V"⟩, 16) := ⟨⟨by decide +kernel, by decide +kernel⟩, List.mem_of_getElem? (i := 699) (by decide +kernel), List.mem_of_getElem? (i := 949) (by decide +kernel), List.mem_of_getElem? (i := 950) (by decide +kernel)⟩
theorem lw_p49 : lw_okq (⟨"GuardCoreModel", "two", "()V"⟩, 16) := ⟨⟨by decide +kernel, by decide +kernel⟩, List.mem_of_getElem? (i := 699) (by decide +kernel), List.mem_of_getElem? (i := 956) (by decide +kernel), List.mem_of_getElem? (i := 957) (by decide +kernel)⟩
theorem lw_p50 : lw_okq (⟨"GuardCoreModel", "one", "()V"⟩, 16) := ⟨⟨by decide +kernel, by decide +kernel⟩, List.mem_of_getElem? (i := 699) (by decide +kernel), List.mem_of_getElem? (i := 964) (by decide +kernel), List.mem_of_getElem? (i := 965) (by decide +kernel)⟩
theorem lw_p51 : lw_okq (⟨"GuardCoreModel", "branch", "()V"⟩, 16) := ⟨⟨by decide +kernel, by decide +kernel⟩, List.mem_of_getElem? (i := 699) (by decide +kernel), List.mem_of_getElem? (i := 969) (by decide +kernel), List.mem_of_getElem? (i := 970) (by decide +kernel)⟩
theorem lw_p52 : lw_okq (⟨"GuardCoreModel", "signed", "(II)J"⟩, 16) := ⟨⟨by decide +kernel, by decide +kernel⟩, List.mem_of_getElem? (i := 699) (by decide +kernel), List.mem_of_getElem? (i := 973) (by decide +kernel), List.mem_of_getElem? (i := 974) (by decide +kernel)⟩
theorem lw_p53 : lw_okq (⟨"GuardCoreModel", "goes", "(J)V"⟩, 16) := ⟨⟨by decide +kernel, by decide +kernel⟩, List.mem_of_getElem? (i := 699) (by decide +kernel), List.mem_of_getElem? (i := 977) (by decide +kernel), List.mem_of_getElem? (i := 978) (by decide +kernel)⟩
theorem lw_p54 : lw_okq (⟨"GuardCoreModel", "zero", "()V"⟩, 16) := ⟨⟨by decide +kernel, by decide +kernel⟩, List.mem_of_getElem? (i := 699) (by decide +kernel), List.mem_of_getElem? (i := 981) (by decide +kernel), List.mem_of_getElem? (i := 982) (by decide +kernel)⟩
theorem lw_p55 : lw_okq (⟨"GuardCoreModel", "byBit", "()V"⟩, 16) := ⟨⟨by decide +kernel, by decide +kernel⟩, List.mem_of_getElem? (i := 699) (by decide +kernel), List.mem_of_getElem? (i := 985) (by decide +kernel), List.mem_of_getElem? (i := 986) (by decide +kernel)⟩
theorem lw_p56 : lw_okq (⟨"GuardCoreModel", "toRegister", "()V"⟩, 16) := ⟨⟨by decide +kernel, by decide +kernel⟩, List.mem_of_getElem? (i := 699) (by decide +kernel), List.mem_of_getElem? (i := 989) (by decide +kernel), List.mem_of_getElem? (i := 990) (by decide +kernel)⟩
theorem lw_p57 : lw_okq (⟨"GuardCoreModel", "loads", "()V"⟩, 16) := ⟨⟨by decide +kernel, by decide +kernel⟩, List.mem_of_getElem? (i := 699) (by decide +kernel), List.mem_of_getElem? (i := 993) (by decide +kernel), List.mem_of_getElem? (i := 994) (by decide +kernel)⟩
theorem lw_p58 : lw_okq (⟨"GuardCoreModel", "baseStands", "(I)Z"⟩, 16) := ⟨⟨by decide +kernel, by decide +kernel⟩, List.mem_of_getElem? (i := 699) (by decide +kernel), List.mem_of_getElem? (i := 997) (by decide +kernel), List.mem_of_getElem? (i := 998) (by decide +kernel)⟩
theorem lw_p59 : lw_okq (⟨"GuardCoreModel", "single", "(IIJZJ)V"⟩, 16) := ⟨⟨by decide +kernel, by decide +kernel⟩, List.mem_of_getElem? (i := 699) (by decide +kernel), List.mem_of_getElem? (i := 1002) (by decide +kernel), List.mem_of_getElem? (i := 1003) (by decide +kernel)⟩
theorem lw_p60 : lw_okq (⟨"GuardCoreModel", "reaches", "(JIZ)Z"⟩, 16) := ⟨⟨by decide +kernel, by decide +kernel⟩, List.mem_of_getElem? (i := 699) (by decide +kernel), List.mem_of_getElem? (i := 1006) (by decide +kernel), List.mem_of_getElem? (i := 1007) (by decide +kernel)⟩
theorem lw_p61 : lw_okq (⟨"GuardCoreModel", "dataFault", "(JZ)V"⟩, 16) := ⟨⟨by decide +kernel, by decide +kernel⟩, List.mem_of_getElem? (i := 699) (by decide +kernel), List.mem_of_getElem? (i := 1010) (by decide +kernel), List.mem_of_getElem? (i := 1011) (by decide +kernel)⟩
theorem lw_p62 : lw_okq (⟨"GuardCoreModel", "keep", "(IJ)V"⟩, 16) := ⟨⟨by decide +kernel, by decide +kernel⟩, List.mem_of_getElem? (i := 699) (by decide +kernel), List.mem_of_getElem? (i := 1015) (by decide +kernel), List.mem_of_getElem? (i := 1016) (by decide +kernel)⟩
theorem lw_p63 : lw_okq (⟨"GuardCoreModel", "pair", "()V"⟩, 16) := ⟨⟨by decide +kernel, by decide +kernel⟩, List.mem_of_getElem? (i := 699) (by decide +kernel), List.mem_of_getElem? (i := 1019) (by decide +kernel), List.mem_of_getElem? (i := 1020) (by decide +kernel)⟩
def lw_privs_4 : List (MethodName × Nat) := [(⟨"GuardCoreModel", "highOf", "()V"⟩, 16), (⟨"GuardCoreModel", "two", "()V"⟩, 16), (⟨"GuardCoreModel", "one", "()V"⟩, 16), (⟨"GuardCoreModel", "branch", "()V"⟩, 16), (⟨"GuardCoreModel", "signed", "(II)J"⟩, 16), (⟨"GuardCoreModel", "goes", "(J)V"⟩, 16), (⟨"GuardCoreModel", "zero", "()V"⟩, 16), (⟨"GuardCoreModel", "byBit", "()V"⟩, 16), (⟨"GuardCoreModel", "toRegister", "()V"⟩, 16), (⟨"GuardCoreModel", "loads", "()V"⟩, 16), (⟨"GuardCoreModel", "baseStands", "(I)Z"⟩, 16), (⟨"GuardCoreModel", "single", "(IIJZJ)V"⟩, 16), (⟨"GuardCoreModel", "reaches", "(JIZ)Z"⟩, 16), (⟨"GuardCoreModel", "dataFault", "(JZ)V"⟩, 16), (⟨"GuardCoreModel", "keep", "(IJ)V"⟩, 16), (⟨"GuardCoreModel", "pair", "()V"⟩, 16)]
theorem lw_r4 : ∀ q ∈ lw_privs_4, lw_okq q := List.forall_mem_cons.mpr ⟨lw_p48, List.forall_mem_cons.mpr ⟨lw_p49, List.forall_mem_cons.mpr ⟨lw_p50, List.forall_mem_cons.mpr ⟨lw_p51, List.forall_mem_cons.mpr ⟨lw_p52, List.forall_mem_cons.mpr ⟨lw_p53, List.forall_mem_cons.mpr ⟨lw_p54, List.forall_mem_cons.mpr ⟨lw_p55, List.forall_mem_cons.mpr ⟨lw_p56, List.forall_mem_cons.mpr ⟨lw_p57, List.forall_mem_cons.mpr ⟨lw_p58, List.forall_mem_cons.mpr ⟨lw_p59, List.forall_mem_cons.mpr ⟨lw_p60, List.forall_mem_cons.mpr ⟨lw_p61, List.forall_mem_cons.mpr ⟨lw_p62, List.forall_mem_cons.mpr ⟨lw_p63, fun _ h => absurd h List.not_mem_nil⟩⟩⟩⟩⟩⟩⟩⟩⟩⟩⟩⟩⟩⟩⟩⟩
theorem lw_p64 : lw_okq (⟨"GuardCoreModel", "near", "()V"⟩, 16) := ⟨⟨by decide +kernel, by decide +kernel⟩, List.mem_of_getElem? (i := 699) (by decide +kernel), List.mem_of_getElem? (i := 1023) (by decide +kernel), List.mem_of_getElem? (i := 1024) (by decide +kernel)⟩
theorem lw_p65 : lw_okq (⟨"GuardCoreModel", "back", "()V"⟩, 16) := ⟨⟨by decide +kernel, by decide +kernel⟩, List.mem_of_getElem? (i := 699) (by decide +kernel), List.mem_of_getElem? (i := 1029) (by decide +kernel), List.mem_of_getElem? (i := 1030) (by decide +kernel)⟩
theorem lw_p66 : lw_okq (⟨"GuardCoreModel", "system", "()V"⟩, 16) := ⟨⟨by decide +kernel, by decide +kernel⟩, List.mem_of_getElem? (i := 699) (by decide +kernel), List.mem_of_getElem? (i := 1033) (by decide +kernel), List.mem_of_getElem? (i := 1034) (by decide +kernel)⟩
theorem lw_p67 : lw_okq (⟨"GuardCoreModel", "sets", "()V"⟩, 16) := ⟨⟨by decide +kernel, by decide +kernel⟩, List.mem_of_getElem? (i := 699) (by decide +kernel), List.mem_of_getElem? (i := 1041) (by decide +kernel), List.mem_of_getElem? (i := 1042) (by decide +kernel)⟩
def lw_privs_5 : List (MethodName × Nat) := [(⟨"GuardCoreModel", "near", "()V"⟩, 16), (⟨"GuardCoreModel", "back", "()V"⟩, 16), (⟨"GuardCoreModel", "system", "()V"⟩, 16), (⟨"GuardCoreModel", "sets", "()V"⟩, 16)]
theorem lw_r5 : ∀ q ∈ lw_privs_5, lw_okq q := List.forall_mem_cons.mpr ⟨lw_p64, List.forall_mem_cons.mpr ⟨lw_p65, List.forall_mem_cons.mpr ⟨lw_p66, List.forall_mem_cons.mpr ⟨lw_p67, fun _ h => absurd h List.not_mem_nil⟩⟩⟩⟩
def lw_privs : List (MethodName × Nat) := lw_privs_1 ++ (lw_privs_2 ++ (lw_privs_3 ++ (lw_privs_4 ++ (lw_privs_5))))
def lw_tbl : List Cond := k2_sels lw_privs ++ tables_1
theorem lw_privs_ok : ∀ q ∈ lw_privs, lw_okq q := by
  show ∀ q ∈ lw_privs_1 ++ (lw_privs_2 ++ (lw_privs_3 ++ (lw_privs_4 ++ (lw_privs_5)))), lw_okq q
  exact List.forall_mem_append.mpr ⟨lw_r1, List.forall_mem_append.mpr ⟨lw_r2, List.forall_mem_append.mpr ⟨lw_r3, List.forall_mem_append.mpr ⟨lw_r4, lw_r5⟩⟩⟩⟩
end
section
def RX0 : String := "GuardCore$Accesses"
def TX0 : u_T := fun k => match k with
  | 0 => ("GuardCore$Accesses", "memory", "LGuardCore$Memory;", true)
  | 1 => ("GuardCore$Accesses", "state", "LGuardCore$State;", true)
  | _ => ("GuardCore$Accesses", "walk", "LGuardCore$Walk;", true)
def tyX0 : Nat → FieldType := fun k => match k with
  | 0 => .object "GuardCore$Memory"
  | 1 => .object "GuardCore$State"
  | _ => .object "GuardCore$Walk"
theorem nmX0 : ∀ a, a < 3 → ∀ b, b < 3 → a ≠ b → (TX0 a).2.1 ≠ (TX0 b).2.1 := by decide +kernel
theorem tyX0_ok : ∀ k, k < 3 → parseFieldDescriptor (TX0 k).2.2.1 = some (tyX0 k) := by decide +kernel
abbrev cX0_init : ByteArray := prog_2_method_1_code
def yX0_init : MethodName := ⟨RX0, "<init>", "(LGuardCore$Memory;LGuardCore$State;LGuardCore$Walk;)V"⟩
abbrev cX0_single : ByteArray := prog_2_method_2_code
def yX0_single : MethodName := ⟨RX0, "single", "(I)Z"⟩
abbrev cX0_isSingle : ByteArray := prog_2_method_3_code
def yX0_isSingle : MethodName := ⟨RX0, "isSingle", "(I)Z"⟩
abbrev cX0_change : ByteArray := prog_2_method_4_code
def yX0_change : MethodName := ⟨RX0, "change", "(I)I"⟩
abbrev cX0_offset : ByteArray := prog_2_method_5_code
def yX0_offset : MethodName := ⟨RX0, "offset", "(I)J"⟩
abbrev cX0_extended : ByteArray := prog_2_method_6_code
def yX0_extended : MethodName := ⟨RX0, "extended", "(JII)J"⟩
abbrev cX0_pair : ByteArray := prog_2_method_7_code
def yX0_pair : MethodName := ⟨RX0, "pair", "(I)Z"⟩
abbrev cX0_near : ByteArray := prog_2_method_8_code
def yX0_near : MethodName := ⟨RX0, "near", "(I)Z"⟩
abbrev cX0_stackIsCrooked : ByteArray := prog_2_method_9_code
def yX0_stackIsCrooked : MethodName := ⟨RX0, "stackIsCrooked", "(I)Z"⟩
abbrev cX0_find : ByteArray := prog_2_method_10_code
def yX0_find : MethodName := ⟨RX0, "find", "(JIZ)I"⟩
def RX1 : String := "GuardCore$Bits"
def TX1 : u_T := fun k => match k with
  | _ => ("", "", "", false)
def tyX1 : Nat → FieldType := fun k => match k with
  | _ => .int
theorem nmX1 : ∀ a, a < 0 → ∀ b, b < 0 → a ≠ b → (TX1 a).2.1 ≠ (TX1 b).2.1 := by decide +kernel
theorem tyX1_ok : ∀ k, k < 0 → parseFieldDescriptor (TX1 k).2.2.1 = some (tyX1 k) := by decide +kernel
abbrev cX1_isOne : ByteArray := prog_3_method_2_code
def yX1_isOne : MethodName := ⟨RX1, "isOne", "(II)Z"⟩
abbrev cX1_field : ByteArray := prog_3_method_3_code
def yX1_field : MethodName := ⟨RX1, "field", "(III)I"⟩
abbrev cX1_signedField : ByteArray := prog_3_method_4_code
def yX1_signedField : MethodName := ⟨RX1, "signedField", "(III)J"⟩
abbrev cX1_narrow : ByteArray := prog_3_method_5_code
def yX1_narrow : MethodName := ⟨RX1, "narrow", "(JZ)J"⟩
abbrev cX1_width : ByteArray := prog_3_method_6_code
def yX1_width : MethodName := ⟨RX1, "width", "(Z)I"⟩
abbrev cX1_ones : ByteArray := prog_3_method_7_code
def yX1_ones : MethodName := ⟨RX1, "ones", "(I)J"⟩
abbrev cX1_moved : ByteArray := prog_3_method_8_code
def yX1_moved : MethodName := ⟨RX1, "moved", "(JIIZ)J"⟩
def RX2 : String := "GuardCore$Branches"
def TX2 : u_T := fun k => match k with
  | _ => ("GuardCore$Branches", "state", "LGuardCore$State;", true)
def tyX2 : Nat → FieldType := fun k => match k with
  | _ => .object "GuardCore$State"
theorem nmX2 : ∀ a, a < 1 → ∀ b, b < 1 → a ≠ b → (TX2 a).2.1 ≠ (TX2 b).2.1 := by decide +kernel
theorem tyX2_ok : ∀ k, k < 1 → parseFieldDescriptor (TX2 k).2.2.1 = some (tyX2 k) := by decide +kernel
abbrev cX2_init : ByteArray := prog_4_method_1_code
def yX2_init : MethodName := ⟨RX2, "<init>", "(LGuardCore$State;)V"⟩
abbrev cX2_branch : ByteArray := prog_4_method_2_code
def yX2_branch : MethodName := ⟨RX2, "branch", "(I)Z"⟩
abbrev cX2_when : ByteArray := prog_4_method_3_code
def yX2_when : MethodName := ⟨RX2, "when", "(I)Z"⟩
abbrev cX2_zero : ByteArray := prog_4_method_4_code
def yX2_zero : MethodName := ⟨RX2, "zero", "(I)Z"⟩
abbrev cX2_bit : ByteArray := prog_4_method_5_code
def yX2_bit : MethodName := ⟨RX2, "bit", "(I)Z"⟩
abbrev cX2_jump : ByteArray := prog_4_method_6_code
def yX2_jump : MethodName := ⟨RX2, "jump", "(ZJ)Z"⟩
abbrev cX2_toRegister : ByteArray := prog_4_method_7_code
def yX2_toRegister : MethodName := ⟨RX2, "toRegister", "(I)Z"⟩
def RX3 : String := "GuardCore$Control"
def TX3 : u_T := fun k => match k with
  | _ => ("GuardCore$Control", "state", "LGuardCore$State;", true)
def tyX3 : Nat → FieldType := fun k => match k with
  | _ => .object "GuardCore$State"
theorem nmX3 : ∀ a, a < 1 → ∀ b, b < 1 → a ≠ b → (TX3 a).2.1 ≠ (TX3 b).2.1 := by decide +kernel
theorem tyX3_ok : ∀ k, k < 1 → parseFieldDescriptor (TX3 k).2.2.1 = some (tyX3 k) := by decide +kernel
abbrev cX3_init : ByteArray := prog_5_method_1_code
def yX3_init : MethodName := ⟨RX3, "<init>", "(LGuardCore$State;)V"⟩
abbrev cX3_call : ByteArray := prog_5_method_2_code
def yX3_call : MethodName := ⟨RX3, "call", "(I)Z"⟩
abbrev cX3_nothing : ByteArray := prog_5_method_3_code
def yX3_nothing : MethodName := ⟨RX3, "nothing", "(I)Z"⟩
abbrev cX3_back : ByteArray := prog_5_method_4_code
def yX3_back : MethodName := ⟨RX3, "back", "(I)Z"⟩
abbrev cX3_system : ByteArray := prog_5_method_5_code
def yX3_system : MethodName := ⟨RX3, "system", "(I)Z"⟩
abbrev cX3_partOf : ByteArray := prog_5_method_6_code
def yX3_partOf : MethodName := ⟨RX3, "partOf", "(I)I"⟩
abbrev cX3_placeOf : ByteArray := prog_5_method_7_code
def yX3_placeOf : MethodName := ⟨RX3, "placeOf", "(I)I"⟩
abbrev cX3_systemWhat : ByteArray := prog_5_method_8_code
def yX3_systemWhat : MethodName := ⟨RX3, "systemWhat", "(IIZ)I"⟩
abbrev cX3_setting : ByteArray := prog_5_method_9_code
def yX3_setting : MethodName := ⟨RX3, "setting", "(I)Z"⟩
def RX4 : String := "GuardCore$Memory"
def TX4 : u_T := fun k => match k with
  | _ => ("GuardCore$Memory", "cells", "[J", true)
def tyX4 : Nat → FieldType := fun k => match k with
  | _ => .array .long
theorem nmX4 : ∀ a, a < 1 → ∀ b, b < 1 → a ≠ b → (TX4 a).2.1 ≠ (TX4 b).2.1 := by decide +kernel
theorem tyX4_ok : ∀ k, k < 1 → parseFieldDescriptor (TX4 k).2.2.1 = some (tyX4 k) := by decide +kernel
abbrev cX4_init : ByteArray := prog_6_method_1_code
def yX4_init : MethodName := ⟨RX4, "<init>", "()V"⟩
abbrev cX4_holds : ByteArray := prog_6_method_2_code
def yX4_holds : MethodName := ⟨RX4, "holds", "(JI)Z"⟩
abbrev cX4_read : ByteArray := prog_6_method_3_code
def yX4_read : MethodName := ⟨RX4, "read", "(JI)J"⟩
abbrev cX4_write : ByteArray := prog_6_method_4_code
def yX4_write : MethodName := ⟨RX4, "write", "(JIJ)V"⟩
def RX5 : String := "GuardCore$Numbers"
def TX5 : u_T := fun k => match k with
  | 0 => ("GuardCore$Numbers", "state", "LGuardCore$State;", true)
  | _ => ("GuardCore$Numbers", "sums", "LGuardCore$Sums;", true)
def tyX5 : Nat → FieldType := fun k => match k with
  | 0 => .object "GuardCore$State"
  | _ => .object "GuardCore$Sums"
theorem nmX5 : ∀ a, a < 2 → ∀ b, b < 2 → a ≠ b → (TX5 a).2.1 ≠ (TX5 b).2.1 := by decide +kernel
theorem tyX5_ok : ∀ k, k < 2 → parseFieldDescriptor (TX5 k).2.2.1 = some (tyX5 k) := by decide +kernel
abbrev cX5_init : ByteArray := prog_7_method_1_code
def yX5_init : MethodName := ⟨RX5, "<init>", "(LGuardCore$State;LGuardCore$Sums;)V"⟩
abbrev cX5_number : ByteArray := prog_7_method_2_code
def yX5_number : MethodName := ⟨RX5, "number", "(I)Z"⟩
abbrev cX5_masks : ByteArray := prog_7_method_3_code
def yX5_masks : MethodName := ⟨RX5, "masks", "(I)Z"⟩
abbrev cX5_mask : ByteArray := prog_7_method_4_code
def yX5_mask : MethodName := ⟨RX5, "mask", "(I)J"⟩
abbrev cX5_move : ByteArray := prog_7_method_5_code
def yX5_move : MethodName := ⟨RX5, "move", "(I)Z"⟩
abbrev cX5_place : ByteArray := prog_7_method_6_code
def yX5_place : MethodName := ⟨RX5, "place", "(I)Z"⟩
abbrev cX5_bits : ByteArray := prog_7_method_7_code
def yX5_bits : MethodName := ⟨RX5, "bits", "(I)Z"⟩
abbrev cX5_twice : ByteArray := prog_7_method_8_code
def yX5_twice : MethodName := ⟨RX5, "twice", "(I)Z"⟩
def RX6 : String := "GuardCore$Processor"
def TX6 : u_T := fun k => match k with
  | 0 => ("GuardCore$Processor", "memory", "LGuardCore$Memory;", true)
  | 1 => ("GuardCore$Processor", "state", "LGuardCore$State;", true)
  | 2 => ("GuardCore$Processor", "walk", "LGuardCore$Walk;", true)
  | 3 => ("GuardCore$Processor", "numbers", "LGuardCore$Numbers;", true)
  | 4 => ("GuardCore$Processor", "registers", "LGuardCore$Registers;", true)
  | 5 => ("GuardCore$Processor", "accesses", "LGuardCore$Accesses;", true)
  | 6 => ("GuardCore$Processor", "branches", "LGuardCore$Branches;", true)
  | 7 => ("GuardCore$Processor", "control", "LGuardCore$Control;", true)
  | _ => ("GuardCore$Processor", "word", "I", false)
def tyX6 : Nat → FieldType := fun k => match k with
  | 0 => .object "GuardCore$Memory"
  | 1 => .object "GuardCore$State"
  | 2 => .object "GuardCore$Walk"
  | 3 => .object "GuardCore$Numbers"
  | 4 => .object "GuardCore$Registers"
  | 5 => .object "GuardCore$Accesses"
  | 6 => .object "GuardCore$Branches"
  | 7 => .object "GuardCore$Control"
  | _ => .int
theorem nmX6 : ∀ a, a < 9 → ∀ b, b < 9 → a ≠ b → (TX6 a).2.1 ≠ (TX6 b).2.1 := by decide +kernel
theorem tyX6_ok : ∀ k, k < 9 → parseFieldDescriptor (TX6 k).2.2.1 = some (tyX6 k) := by decide +kernel
abbrev cX6_init : ByteArray := prog_8_method_1_code
def yX6_init : MethodName := ⟨RX6, "<init>", "(LGuardCore$Memory;LGuardCore$State;LGuardCore$Walk;)V"⟩
abbrev cX6_fetches : ByteArray := prog_8_method_2_code
def yX6_fetches : MethodName := ⟨RX6, "fetches", "()Z"⟩
abbrev cX6_performs : ByteArray := prog_8_method_3_code
def yX6_performs : MethodName := ⟨RX6, "performs", "()Z"⟩
abbrev cX6_performsBranch : ByteArray := prog_8_method_4_code
def yX6_performsBranch : MethodName := ⟨RX6, "performsBranch", "()Z"⟩
abbrev cX6_performsControl : ByteArray := prog_8_method_5_code
def yX6_performsControl : MethodName := ⟨RX6, "performsControl", "()Z"⟩
abbrev cX6_performsRegisters : ByteArray := prog_8_method_6_code
def yX6_performsRegisters : MethodName := ⟨RX6, "performsRegisters", "()Z"⟩
def RX7 : String := "GuardCore$Registers"
def TX7 : u_T := fun k => match k with
  | 0 => ("GuardCore$Registers", "state", "LGuardCore$State;", true)
  | _ => ("GuardCore$Registers", "sums", "LGuardCore$Sums;", true)
def tyX7 : Nat → FieldType := fun k => match k with
  | 0 => .object "GuardCore$State"
  | _ => .object "GuardCore$Sums"
theorem nmX7 : ∀ a, a < 2 → ∀ b, b < 2 → a ≠ b → (TX7 a).2.1 ≠ (TX7 b).2.1 := by decide +kernel
theorem tyX7_ok : ∀ k, k < 2 → parseFieldDescriptor (TX7 k).2.2.1 = some (tyX7 k) := by decide +kernel
abbrev cX7_init : ByteArray := prog_9_method_1_code
def yX7_init : MethodName := ⟨RX7, "<init>", "(LGuardCore$State;LGuardCore$Sums;)V"⟩
abbrev cX7_left : ByteArray := prog_9_method_2_code
def yX7_left : MethodName := ⟨RX7, "left", "(I)J"⟩
abbrev cX7_right : ByteArray := prog_9_method_3_code
def yX7_right : MethodName := ⟨RX7, "right", "(I)J"⟩
abbrev cX7_put : ByteArray := prog_9_method_4_code
def yX7_put : MethodName := ⟨RX7, "put", "(IJ)Z"⟩
abbrev cX7_sum : ByteArray := prog_9_method_5_code
def yX7_sum : MethodName := ⟨RX7, "sum", "(I)Z"⟩
abbrev cX7_logic : ByteArray := prog_9_method_6_code
def yX7_logic : MethodName := ⟨RX7, "logic", "(I)Z"⟩
abbrev cX7_choose : ByteArray := prog_9_method_7_code
def yX7_choose : MethodName := ⟨RX7, "choose", "(I)Z"⟩
abbrev cX7_compare : ByteArray := prog_9_method_8_code
def yX7_compare : MethodName := ⟨RX7, "compare", "(I)Z"⟩
abbrev cX7_times : ByteArray := prog_9_method_9_code
def yX7_times : MethodName := ⟨RX7, "times", "(I)Z"⟩
abbrev cX7_upperTimes : ByteArray := prog_9_method_10_code
def yX7_upperTimes : MethodName := ⟨RX7, "upperTimes", "(I)Z"⟩
abbrev cX7_two : ByteArray := prog_9_method_11_code
def yX7_two : MethodName := ⟨RX7, "two", "(I)Z"⟩
abbrev cX7_quotient : ByteArray := prog_9_method_12_code
def yX7_quotient : MethodName := ⟨RX7, "quotient", "(JJ)J"⟩
abbrev cX7_signedQuotient : ByteArray := prog_9_method_13_code
def yX7_signedQuotient : MethodName := ⟨RX7, "signedQuotient", "(JJZ)J"⟩
abbrev cX7_one : ByteArray := prog_9_method_14_code
def yX7_one : MethodName := ⟨RX7, "one", "(I)Z"⟩
abbrev cX7_bytesOfPairs : ByteArray := prog_9_method_15_code
def yX7_bytesOfPairs : MethodName := ⟨RX7, "bytesOfPairs", "(J)J"⟩
abbrev cX7_bytesOfFours : ByteArray := prog_9_method_16_code
def yX7_bytesOfFours : MethodName := ⟨RX7, "bytesOfFours", "(J)J"⟩
abbrev cX7_zerosAbove : ByteArray := prog_9_method_17_code
def yX7_zerosAbove : MethodName := ⟨RX7, "zerosAbove", "(JZ)J"⟩
abbrev cX7_likeTheHighest : ByteArray := prog_9_method_18_code
def yX7_likeTheHighest : MethodName := ⟨RX7, "likeTheHighest", "(JZ)J"⟩
def RX8 : String := "GuardCore$State"
def TX8 : u_T := fun k => match k with
  | 0 => ("GuardCore$State", "parts", "[J", true)
  | 1 => ("GuardCore$State", "interrupted", "Z", false)
  | 2 => ("GuardCore$State", "next", "J", false)
  | _ => ("GuardCore$State", "taken", "I", false)
def tyX8 : Nat → FieldType := fun k => match k with
  | 0 => .array .long
  | 1 => .boolean
  | 2 => .long
  | _ => .int
theorem nmX8 : ∀ a, a < 4 → ∀ b, b < 4 → a ≠ b → (TX8 a).2.1 ≠ (TX8 b).2.1 := by decide +kernel
theorem tyX8_ok : ∀ k, k < 4 → parseFieldDescriptor (TX8 k).2.2.1 = some (tyX8 k) := by decide +kernel
abbrev cX8_init : ByteArray := prog_10_method_1_code
def yX8_init : MethodName := ⟨RX8, "<init>", "()V"⟩
abbrev cX8_part : ByteArray := prog_10_method_2_code
def yX8_part : MethodName := ⟨RX8, "part", "(I)J"⟩
abbrev cX8_putPart : ByteArray := prog_10_method_3_code
def yX8_putPart : MethodName := ⟨RX8, "putPart", "(IJ)Z"⟩
abbrev cX8_register : ByteArray := prog_10_method_4_code
def yX8_register : MethodName := ⟨RX8, "register", "(I)J"⟩
abbrev cX8_putRegister : ByteArray := prog_10_method_5_code
def yX8_putRegister : MethodName := ⟨RX8, "putRegister", "(IJ)V"⟩
abbrev cX8_registerOrStack : ByteArray := prog_10_method_6_code
def yX8_registerOrStack : MethodName := ⟨RX8, "registerOrStack", "(I)J"⟩
abbrev cX8_putRegisterOrStack : ByteArray := prog_10_method_7_code
def yX8_putRegisterOrStack : MethodName := ⟨RX8, "putRegisterOrStack", "(IJ)V"⟩
abbrev cX8_stack : ByteArray := prog_10_method_8_code
def yX8_stack : MethodName := ⟨RX8, "stack", "()I"⟩
abbrev cX8_level : ByteArray := prog_10_method_9_code
def yX8_level : MethodName := ⟨RX8, "level", "()I"⟩
abbrev cX8_pc : ByteArray := prog_10_method_10_code
def yX8_pc : MethodName := ⟨RX8, "pc", "()J"⟩
abbrev cX8_meets : ByteArray := prog_10_method_11_code
def yX8_meets : MethodName := ⟨RX8, "meets", "(I)Z"⟩
abbrev cX8_putInterrupt : ByteArray := prog_10_method_12_code
def yX8_putInterrupt : MethodName := ⟨RX8, "putInterrupt", "(Z)V"⟩
abbrev cX8_isInterruptDue : ByteArray := prog_10_method_13_code
def yX8_isInterruptDue : MethodName := ⟨RX8, "isInterruptDue", "()Z"⟩
abbrev cX8_taken : ByteArray := prog_10_method_14_code
def yX8_taken : MethodName := ⟨RX8, "taken", "()I"⟩
abbrev cX8_begin : ByteArray := prog_10_method_15_code
def yX8_begin : MethodName := ⟨RX8, "begin", "()V"⟩
abbrev cX8_goTo : ByteArray := prog_10_method_16_code
def yX8_goTo : MethodName := ⟨RX8, "goTo", "(J)V"⟩
abbrev cX8_finish : ByteArray := prog_10_method_17_code
def yX8_finish : MethodName := ⟨RX8, "finish", "()V"⟩
abbrev cX8_takeInterrupt : ByteArray := prog_10_method_18_code
def yX8_takeInterrupt : MethodName := ⟨RX8, "takeInterrupt", "()V"⟩
abbrev cX8_raise : ByteArray := prog_10_method_19_code
def yX8_raise : MethodName := ⟨RX8, "raise", "(II)V"⟩
abbrev cX8_raiseAt : ByteArray := prog_10_method_20_code
def yX8_raiseAt : MethodName := ⟨RX8, "raiseAt", "(JII)V"⟩
abbrev cX8_raiseBehind : ByteArray := prog_10_method_21_code
def yX8_raiseBehind : MethodName := ⟨RX8, "raiseBehind", "(II)V"⟩
abbrev cX8_tell : ByteArray := prog_10_method_22_code
def yX8_tell : MethodName := ⟨RX8, "tell", "(II)V"⟩
abbrev cX8_enter : ByteArray := prog_10_method_23_code
def yX8_enter : MethodName := ⟨RX8, "enter", "(JI)V"⟩
def RX9 : String := "GuardCore$Sums"
def TX9 : u_T := fun k => match k with
  | _ => ("GuardCore$Sums", "state", "LGuardCore$State;", true)
def tyX9 : Nat → FieldType := fun k => match k with
  | _ => .object "GuardCore$State"
theorem nmX9 : ∀ a, a < 1 → ∀ b, b < 1 → a ≠ b → (TX9 a).2.1 ≠ (TX9 b).2.1 := by decide +kernel
theorem tyX9_ok : ∀ k, k < 1 → parseFieldDescriptor (TX9 k).2.2.1 = some (tyX9 k) := by decide +kernel
abbrev cX9_init : ByteArray := prog_11_method_1_code
def yX9_init : MethodName := ⟨RX9, "<init>", "(LGuardCore$State;)V"⟩
abbrev cX9_sum : ByteArray := prog_11_method_2_code
def yX9_sum : MethodName := ⟨RX9, "sum", "(JJZZZ)J"⟩
abbrev cX9_logic : ByteArray := prog_11_method_3_code
def yX9_logic : MethodName := ⟨RX9, "logic", "(JJIZ)J"⟩
abbrev cX9_signAndZero : ByteArray := prog_11_method_4_code
def yX9_signAndZero : MethodName := ⟨RX9, "signAndZero", "(JZ)J"⟩
def RX10 : String := "GuardCore$Walk"
def TX10 : u_T := fun k => match k with
  | 0 => ("GuardCore$Walk", "memory", "LGuardCore$Memory;", true)
  | _ => ("GuardCore$Walk", "state", "LGuardCore$State;", true)
def tyX10 : Nat → FieldType := fun k => match k with
  | 0 => .object "GuardCore$Memory"
  | _ => .object "GuardCore$State"
theorem nmX10 : ∀ a, a < 2 → ∀ b, b < 2 → a ≠ b → (TX10 a).2.1 ≠ (TX10 b).2.1 := by decide +kernel
theorem tyX10_ok : ∀ k, k < 2 → parseFieldDescriptor (TX10 k).2.2.1 = some (tyX10 k) := by decide +kernel
abbrev cX10_init : ByteArray := prog_12_method_1_code
def yX10_init : MethodName := ⟨RX10, "<init>", "(LGuardCore$Memory;LGuardCore$State;)V"⟩
abbrev cX10_find : ByteArray := prog_12_method_2_code
def yX10_find : MethodName := ⟨RX10, "find", "(JIII)I"⟩
abbrev cX10_translated : ByteArray := prog_12_method_3_code
def yX10_translated : MethodName := ⟨RX10, "translated", "(JII)J"⟩
abbrev cX10_fault : ByteArray := prog_12_method_4_code
def yX10_fault : MethodName := ⟨RX10, "fault", "(JII)I"⟩
abbrev cX10_permits : ByteArray := prog_12_method_5_code
def yX10_permits : MethodName := ⟨RX10, "permits", "(JII)Z"⟩
def RX11 : String := "GuardCore"
def TX11 : u_T := fun k => match k with
  | 0 => ("GuardCore", "memory", "LGuardCore$Memory;", true)
  | 1 => ("GuardCore", "state", "LGuardCore$State;", true)
  | 2 => ("GuardCore", "walk", "LGuardCore$Walk;", true)
  | _ => ("GuardCore", "processor", "LGuardCore$Processor;", true)
def tyX11 : Nat → FieldType := fun k => match k with
  | 0 => .object "GuardCore$Memory"
  | 1 => .object "GuardCore$State"
  | 2 => .object "GuardCore$Walk"
  | _ => .object "GuardCore$Processor"
theorem nmX11 : ∀ a, a < 4 → ∀ b, b < 4 → a ≠ b → (TX11 a).2.1 ≠ (TX11 b).2.1 := by decide +kernel
theorem tyX11_ok : ∀ k, k < 4 → parseFieldDescriptor (TX11 k).2.2.1 = some (tyX11 k) := by decide +kernel
abbrev cX11_init : ByteArray := prog_1_method_1_code
def yX11_init : MethodName := ⟨RX11, "<init>", "()V"⟩
abbrev cX11_poke : ByteArray := prog_1_method_2_code
def yX11_poke : MethodName := ⟨RX11, "poke", "(II)Z"⟩
abbrev cX11_peek : ByteArray := prog_1_method_3_code
def yX11_peek : MethodName := ⟨RX11, "peek", "(I)I"⟩
abbrev cX11_set : ByteArray := prog_1_method_4_code
def yX11_set : MethodName := ⟨RX11, "set", "(III)Z"⟩
abbrev cX11_low : ByteArray := prog_1_method_5_code
def yX11_low : MethodName := ⟨RX11, "low", "(I)I"⟩
abbrev cX11_high : ByteArray := prog_1_method_6_code
def yX11_high : MethodName := ⟨RX11, "high", "(I)I"⟩
abbrev cX11_interrupt : ByteArray := prog_1_method_7_code
def yX11_interrupt : MethodName := ⟨RX11, "interrupt", "(Z)V"⟩
abbrev cX11_step : ByteArray := prog_1_method_8_code
def yX11_step : MethodName := ⟨RX11, "step", "(I)I"⟩
abbrev cX11_look : ByteArray := prog_1_method_9_code
def yX11_look : MethodName := ⟨RX11, "look", "(IIII)I"⟩
abbrev cX11_isWordPlace : ByteArray := prog_1_method_10_code
def yX11_isWordPlace : MethodName := ⟨RX11, "isWordPlace", "(I)Z"⟩
def RX12 : String := "GuardCoreModel"
def TX12 : u_T := fun k => match k with
  | 0 => ("GuardCoreModel", "thrownCode", "I", false)
  | 1 => ("GuardCoreModel", "mem", "[I", true)
  | 2 => ("GuardCoreModel", "x", "[J", true)
  | 3 => ("GuardCoreModel", "state", "[J", true)
  | 4 => ("GuardCoreModel", "flags", "I", false)
  | 5 => ("GuardCoreModel", "level", "I", false)
  | 6 => ("GuardCoreModel", "select", "I", false)
  | 7 => ("GuardCoreModel", "masked", "I", false)
  | 8 => ("GuardCoreModel", "calls", "Z", false)
  | 9 => ("GuardCoreModel", "faultWhat", "I", false)
  | 10 => ("GuardCoreModel", "place", "J", false)
  | 11 => ("GuardCoreModel", "taken", "I", false)
  | 12 => ("GuardCoreModel", "carry", "I", false)
  | 13 => ("GuardCoreModel", "over", "I", false)
  | 14 => ("GuardCoreModel", "ins", "I", false)
  | _ => ("GuardCoreModel", "asked", "Z", false)
def tyX12 : Nat → FieldType := fun k => match k with
  | 0 => .int
  | 1 => .array .int
  | 2 => .array .long
  | 3 => .array .long
  | 4 => .int
  | 5 => .int
  | 6 => .int
  | 7 => .int
  | 8 => .boolean
  | 9 => .int
  | 10 => .long
  | 11 => .int
  | 12 => .int
  | 13 => .int
  | 14 => .int
  | _ => .boolean
theorem nmX12 : ∀ a, a < 16 → ∀ b, b < 16 → a ≠ b → (TX12 a).2.1 ≠ (TX12 b).2.1 := by decide +kernel
theorem tyX12_ok : ∀ k, k < 16 → parseFieldDescriptor (TX12 k).2.2.1 = some (tyX12 k) := by decide +kernel
abbrev cX12_init : ByteArray := prog_14_method_1_code
def yX12_init : MethodName := ⟨RX12, "<init>", "()V"⟩
abbrev cX12_poke : ByteArray := prog_14_method_3_code
def yX12_poke : MethodName := ⟨RX12, "poke", "(II)Z"⟩
abbrev cX12_peek : ByteArray := prog_14_method_4_code
def yX12_peek : MethodName := ⟨RX12, "peek", "(I)I"⟩
abbrev cX12_bytes : ByteArray := prog_14_method_5_code
def yX12_bytes : MethodName := ⟨RX12, "bytes", "(II)J"⟩
abbrev cX12_isBelow : ByteArray := prog_14_method_6_code
def yX12_isBelow : MethodName := ⟨RX12, "isBelow", "(JJ)Z"⟩
abbrev cX12_wrong : ByteArray := prog_14_method_7_code
def yX12_wrong : MethodName := ⟨RX12, "wrong", "(I)Z"⟩
abbrev cX12_bit : ByteArray := prog_14_method_8_code
def yX12_bit : MethodName := ⟨RX12, "bit", "(JI)Z"⟩
abbrev cX12_bits : ByteArray := prog_14_method_9_code
def yX12_bits : MethodName := ⟨RX12, "bits", "(JII)J"⟩
abbrev cX12_leads : ByteArray := prog_14_method_10_code
def yX12_leads : MethodName := ⟨RX12, "leads", "(JII)Z"⟩
abbrev cX12_inside : ByteArray := prog_14_method_11_code
def yX12_inside : MethodName := ⟨RX12, "inside", "(I)Z"⟩
abbrev cX12_enters : ByteArray := prog_14_method_12_code
def yX12_enters : MethodName := ⟨RX12, "enters", "(JZ)V"⟩
abbrev cX12_exception : ByteArray := prog_14_method_13_code
def yX12_exception : MethodName := ⟨RX12, "exception", "(IJJ)V"⟩
abbrev cX12_none : ByteArray := prog_14_method_14_code
def yX12_none : MethodName := ⟨RX12, "none", "()V"⟩
abbrev cX12_dataFault : ByteArray := prog_14_method_15_code
def yX12_dataFault : MethodName := ⟨RX12, "dataFault", "(JZ)V"⟩
abbrev cX12_pointer : ByteArray := prog_14_method_16_code
def yX12_pointer : MethodName := ⟨RX12, "pointer", "()I"⟩
abbrev cX12_reg : ByteArray := prog_14_method_17_code
def yX12_reg : MethodName := ⟨RX12, "reg", "(I)J"⟩
abbrev cX12_regOrPointer : ByteArray := prog_14_method_18_code
def yX12_regOrPointer : MethodName := ⟨RX12, "regOrPointer", "(I)J"⟩
abbrev cX12_put : ByteArray := prog_14_method_19_code
def yX12_put : MethodName := ⟨RX12, "put", "(IJ)V"⟩
abbrev cX12_putOrPointer : ByteArray := prog_14_method_20_code
def yX12_putOrPointer : MethodName := ⟨RX12, "putOrPointer", "(IJ)V"⟩
abbrev cX12_cut : ByteArray := prog_14_method_21_code
def yX12_cut : MethodName := ⟨RX12, "cut", "(JI)J"⟩
abbrev cX12_sum : ByteArray := prog_14_method_22_code
def yX12_sum : MethodName := ⟨RX12, "sum", "(JJII)J"⟩
abbrev cX12_signs : ByteArray := prog_14_method_23_code
def yX12_signs : MethodName := ⟨RX12, "signs", "(JIII)V"⟩
abbrev cX12_moved : ByteArray := prog_14_method_24_code
def yX12_moved : MethodName := ⟨RX12, "moved", "(JIII)J"⟩
abbrev cX12_extend : ByteArray := prog_14_method_25_code
def yX12_extend : MethodName := ⟨RX12, "extend", "(JI)J"⟩
abbrev cX12_holds : ByteArray := prog_14_method_26_code
def yX12_holds : MethodName := ⟨RX12, "holds", "(I)Z"⟩
abbrev cX12_f : ByteArray := prog_14_method_27_code
def yX12_f : MethodName := ⟨RX12, "f", "(II)I"⟩
abbrev cX12_on : ByteArray := prog_14_method_28_code
def yX12_on : MethodName := ⟨RX12, "on", "(I)Z"⟩
abbrev cX12_width : ByteArray := prog_14_method_29_code
def yX12_width : MethodName := ⟨RX12, "width", "()I"⟩
abbrev cX12_signed : ByteArray := prog_14_method_30_code
def yX12_signed : MethodName := ⟨RX12, "signed", "(II)J"⟩
abbrev cX12_number : ByteArray := prog_14_method_31_code
def yX12_number : MethodName := ⟨RX12, "number", "()V"⟩
abbrev cX12_sums : ByteArray := prog_14_method_32_code
def yX12_sums : MethodName := ⟨RX12, "sums", "()V"⟩
abbrev cX12_joined : ByteArray := prog_14_method_33_code
def yX12_joined : MethodName := ⟨RX12, "joined", "(IJJ)J"⟩
abbrev cX12_logic : ByteArray := prog_14_method_34_code
def yX12_logic : MethodName := ⟨RX12, "logic", "()V"⟩
abbrev cX12_masks : ByteArray := prog_14_method_35_code
def yX12_masks : MethodName := ⟨RX12, "masks", "()V"⟩
abbrev cX12_move : ByteArray := prog_14_method_36_code
def yX12_move : MethodName := ⟨RX12, "move", "()V"⟩
abbrev cX12_placeOf : ByteArray := prog_14_method_37_code
def yX12_placeOf : MethodName := ⟨RX12, "placeOf", "()V"⟩
abbrev cX12_bitsOf : ByteArray := prog_14_method_38_code
def yX12_bitsOf : MethodName := ⟨RX12, "bitsOf", "()V"⟩
abbrev cX12_twice : ByteArray := prog_14_method_39_code
def yX12_twice : MethodName := ⟨RX12, "twice", "()V"⟩
abbrev cX12_choose : ByteArray := prog_14_method_40_code
def yX12_choose : MethodName := ⟨RX12, "choose", "()V"⟩
abbrev cX12_compare : ByteArray := prog_14_method_41_code
def yX12_compare : MethodName := ⟨RX12, "compare", "()V"⟩
abbrev cX12_times : ByteArray := prog_14_method_42_code
def yX12_times : MethodName := ⟨RX12, "times", "()V"⟩
abbrev cX12_upper : ByteArray := prog_14_method_43_code
def yX12_upper : MethodName := ⟨RX12, "upper", "(JJ)J"⟩
abbrev cX12_highOf : ByteArray := prog_14_method_44_code
def yX12_highOf : MethodName := ⟨RX12, "highOf", "()V"⟩
abbrev cX12_quotient : ByteArray := prog_14_method_45_code
def yX12_quotient : MethodName := ⟨RX12, "quotient", "(JJI)J"⟩
abbrev cX12_two : ByteArray := prog_14_method_46_code
def yX12_two : MethodName := ⟨RX12, "two", "()V"⟩
abbrev cX12_one : ByteArray := prog_14_method_47_code
def yX12_one : MethodName := ⟨RX12, "one", "()V"⟩
abbrev cX12_goes : ByteArray := prog_14_method_48_code
def yX12_goes : MethodName := ⟨RX12, "goes", "(J)V"⟩
abbrev cX12_branch : ByteArray := prog_14_method_49_code
def yX12_branch : MethodName := ⟨RX12, "branch", "()V"⟩
abbrev cX12_zero : ByteArray := prog_14_method_50_code
def yX12_zero : MethodName := ⟨RX12, "zero", "()V"⟩
abbrev cX12_byBit : ByteArray := prog_14_method_51_code
def yX12_byBit : MethodName := ⟨RX12, "byBit", "()V"⟩
abbrev cX12_toRegister : ByteArray := prog_14_method_52_code
def yX12_toRegister : MethodName := ⟨RX12, "toRegister", "()V"⟩
abbrev cX12_baseStands : ByteArray := prog_14_method_53_code
def yX12_baseStands : MethodName := ⟨RX12, "baseStands", "(I)Z"⟩
abbrev cX12_reaches : ByteArray := prog_14_method_54_code
def yX12_reaches : MethodName := ⟨RX12, "reaches", "(JIZ)Z"⟩
abbrev cX12_keep : ByteArray := prog_14_method_55_code
def yX12_keep : MethodName := ⟨RX12, "keep", "(IJ)V"⟩
abbrev cX12_single : ByteArray := prog_14_method_56_code
def yX12_single : MethodName := ⟨RX12, "single", "(IIJZJ)V"⟩
abbrev cX12_loads : ByteArray := prog_14_method_57_code
def yX12_loads : MethodName := ⟨RX12, "loads", "()V"⟩
abbrev cX12_pair : ByteArray := prog_14_method_58_code
def yX12_pair : MethodName := ⟨RX12, "pair", "()V"⟩
abbrev cX12_near : ByteArray := prog_14_method_59_code
def yX12_near : MethodName := ⟨RX12, "near", "()V"⟩
abbrev cX12_back : ByteArray := prog_14_method_60_code
def yX12_back : MethodName := ⟨RX12, "back", "()V"⟩
abbrev cX12_slot : ByteArray := prog_14_method_61_code
def yX12_slot : MethodName := ⟨RX12, "slot", "(I)I"⟩
abbrev cX12_system : ByteArray := prog_14_method_62_code
def yX12_system : MethodName := ⟨RX12, "system", "()V"⟩
abbrev cX12_sets : ByteArray := prog_14_method_63_code
def yX12_sets : MethodName := ⟨RX12, "sets", "()V"⟩
abbrev cX12_does : ByteArray := prog_14_method_64_code
def yX12_does : MethodName := ⟨RX12, "does", "()V"⟩
abbrev cX12_oneStep : ByteArray := prog_14_method_65_code
def yX12_oneStep : MethodName := ⟨RX12, "oneStep", "()V"⟩
abbrev cX12_set : ByteArray := prog_14_method_66_code
def yX12_set : MethodName := ⟨RX12, "set", "(III)Z"⟩
abbrev cX12_part : ByteArray := prog_14_method_67_code
def yX12_part : MethodName := ⟨RX12, "part", "(I)J"⟩
abbrev cX12_low : ByteArray := prog_14_method_68_code
def yX12_low : MethodName := ⟨RX12, "low", "(I)I"⟩
abbrev cX12_high : ByteArray := prog_14_method_69_code
def yX12_high : MethodName := ⟨RX12, "high", "(I)I"⟩
abbrev cX12_interrupt : ByteArray := prog_14_method_70_code
def yX12_interrupt : MethodName := ⟨RX12, "interrupt", "(Z)V"⟩
abbrev cX12_step : ByteArray := prog_14_method_71_code
def yX12_step : MethodName := ⟨RX12, "step", "(I)I"⟩
abbrev cX12_look : ByteArray := prog_14_method_72_code
def yX12_look : MethodName := ⟨RX12, "look", "(IIII)I"⟩
def RJ6 : String := "java/lang/Integer"
def TJ6 : u_T := fun k => match k with
  | _ => ("", "", "", false)
def tyJ6 : Nat → FieldType := fun k => match k with
  | _ => .int
theorem nmJ6 : ∀ a, a < 0 → ∀ b, b < 0 → a ≠ b → (TJ6 a).2.1 ≠ (TJ6 b).2.1 := by decide +kernel
theorem tyJ6_ok : ∀ k, k < 0 → parseFieldDescriptor (TJ6 k).2.2.1 = some (tyJ6 k) := by decide +kernel
abbrev cJ6_highestOneBit_0f7a4 : ByteArray := prog_15_method_45_code
def yJ6_highestOneBit_0f7a4 : MethodName := ⟨RJ6, "highestOneBit", "(I)I"⟩
abbrev cJ6_numberOfLeadingZeros_0f7a4 : ByteArray := prog_15_method_47_code
def yJ6_numberOfLeadingZeros_0f7a4 : MethodName := ⟨RJ6, "numberOfLeadingZeros", "(I)I"⟩
abbrev cJ6_rotateRight_7cf53 : ByteArray := prog_15_method_51_code
def yJ6_rotateRight_7cf53 : MethodName := ⟨RJ6, "rotateRight", "(II)I"⟩
def RJ13 : String := "java/lang/Long"
def TJ13 : u_T := fun k => match k with
  | _ => ("", "", "", false)
def tyJ13 : Nat → FieldType := fun k => match k with
  | _ => .int
theorem nmJ13 : ∀ a, a < 0 → ∀ b, b < 0 → a ≠ b → (TJ13 a).2.1 ≠ (TJ13 b).2.1 := by decide +kernel
theorem tyJ13_ok : ∀ k, k < 0 → parseFieldDescriptor (TJ13 k).2.2.1 = some (tyJ13 k) := by decide +kernel
abbrev cJ13_compare_74951 : ByteArray := prog_16_method_42_code
def yJ13_compare_74951 : MethodName := ⟨RJ13, "compare", "(JJ)I"⟩
abbrev cJ13_compareUnsigned_74951 : ByteArray := prog_16_method_43_code
def yJ13_compareUnsigned_74951 : MethodName := ⟨RJ13, "compareUnsigned", "(JJ)I"⟩
abbrev cJ13_numberOfLeadingZeros_95d88 : ByteArray := prog_16_method_48_code
def yJ13_numberOfLeadingZeros_95d88 : MethodName := ⟨RJ13, "numberOfLeadingZeros", "(J)I"⟩
abbrev cJ13_rotateRight_b2ac5 : ByteArray := prog_16_method_52_code
def yJ13_rotateRight_b2ac5 : MethodName := ⟨RJ13, "rotateRight", "(JI)J"⟩
abbrev cJ13_reverse_067f4 : ByteArray := prog_16_method_53_code
def yJ13_reverse_067f4 : MethodName := ⟨RJ13, "reverse", "(J)J"⟩
abbrev cJ13_reverseBytes_067f4 : ByteArray := prog_16_method_58_code
def yJ13_reverseBytes_067f4 : MethodName := ⟨RJ13, "reverseBytes", "(J)J"⟩
def RJ9 : String := "java/lang/Math"
def TJ9 : u_T := fun k => match k with
  | _ => ("", "", "", false)
def tyJ9 : Nat → FieldType := fun k => match k with
  | _ => .int
theorem nmJ9 : ∀ a, a < 0 → ∀ b, b < 0 → a ≠ b → (TJ9 a).2.1 ≠ (TJ9 b).2.1 := by decide +kernel
theorem tyJ9_ok : ∀ k, k < 0 → parseFieldDescriptor (TJ9 k).2.2.1 = some (tyJ9 k) := by decide +kernel
abbrev cJ9_multiplyHigh_f86c9 : ByteArray := prog_17_method_45_code
def yJ9_multiplyHigh_f86c9 : MethodName := ⟨RJ9, "multiplyHigh", "(JJ)J"⟩
def RL : String := "GuardCoreLaw"
abbrev cL_law : ByteArray := code
def yL_law : MethodName := ⟨RL, "law", "([I)Z"⟩
abbrev vwCl : List vw_C := [(RX0, TX0, 3), (RX2, TX2, 1), (RX3, TX3, 1), (RX4, TX4, 1), (RX5, TX5, 2), (RX6, TX6, 9), (RX7, TX7, 2), (RX8, TX8, 4), (RX9, TX9, 1), (RX10, TX10, 2), (RX11, TX11, 4), (RX12, TX12, 16)]
end
section
def zB (b : Bool) : Int32 := if b = true then 1 else 0
theorem zB_t : zB true = 1 := rfl
theorem zB_f : zB false = 0 := rfl
theorem zB_nar (b : Bool) : narrow .boolean (.int (zB b)) = .int (zB b) := by cases b <;> decide +kernel
theorem zB_fit (b : Bool) : fits .boolean (.int (zB b)) = true := by cases b <;> decide +kernel
theorem zB_0 {b : Bool} (h : zB b = 0) : ¬ b = true := by
  cases b
  · decide
  · exact absurd h (by decide)
theorem zB_1 {b : Bool} (h : ¬ zB b = 0) : b = true := by
  cases b
  · exact absurd rfl h
  · rfl
def tbG : List Cond := lw_tbl.filter goodWord
theorem tbG_lw {args : Array Value} {s : State} (h : ∀ w ∈ lw_tbl, w.before args s = true) : ∀ w ∈ tbG, w.before args s = true := fun w hw => h w (List.mem_filter.mp hw).1
theorem tb_good : GoodIn tbG tbG := fun w hw => ⟨hw, good_of_word (List.mem_filter.mp hw).2⟩
abbrev wsC (y : MethodName) (cc : ByteArray) (n : Nat) (ret : Option FieldType) : List Cond := .code y cc n ret :: tbG
theorem tb_goodC {y : MethodName} {cc : ByteArray} {n : Nat} {ret : Option FieldType} (hc : Cond.code y cc n ret ∈ tbG) : GoodIn tbG (wsC y cc n ret) := fun w hw => by
  rcases List.mem_cons.mp hw with h | h
  · rw [h]; exact tb_good _ hc
  · exact tb_good _ h
theorem tb_at {w : Cond} (i : Nat) (h : lw_tbl[i]? = some w) (hg : goodWord w = true) : w ∈ tbG := List.mem_filter.mpr ⟨List.mem_of_getElem? h, hg⟩
theorem tb_p {w : Cond} (i : Nat) (h : (k2_sels lw_privs)[i]? = some w) (hg : goodWord w = true) : w ∈ tbG := List.mem_filter.mpr ⟨List.mem_append_left _ (List.mem_of_getElem? h), hg⟩
theorem tb_1 {w : Cond} (i : Nat) (h : tables_1_1[i]? = some w) (hg : goodWord w = true) : w ∈ tbG := List.mem_filter.mpr ⟨List.mem_append_right _ (List.mem_append_left _ (List.mem_of_getElem? h)), hg⟩
theorem tb_2 {w : Cond} (i : Nat) (h : tables_1_2[i]? = some w) (hg : goodWord w = true) : w ∈ tbG := List.mem_filter.mpr ⟨List.mem_append_right _ (List.mem_append_right _ (List.mem_append_left _ (List.mem_of_getElem? h))), hg⟩
theorem tb_3 {w : Cond} (i : Nat) (h : tables_1_3[i]? = some w) (hg : goodWord w = true) : w ∈ tbG := List.mem_filter.mpr ⟨List.mem_append_right _ (List.mem_append_right _ (List.mem_append_right _ (List.mem_append_left _ (List.mem_of_getElem? h)))), hg⟩
theorem tb_4 {w : Cond} (i : Nat) (h : tables_1_4[i]? = some w) (hg : goodWord w = true) : w ∈ tbG := List.mem_filter.mpr ⟨List.mem_append_right _ (List.mem_append_right _ (List.mem_append_right _ (List.mem_append_right _ (List.mem_append_left _ (List.mem_of_getElem? h))))), hg⟩
theorem tb_5 {w : Cond} (i : Nat) (h : tables_1_5[i]? = some w) (hg : goodWord w = true) : w ∈ tbG := List.mem_filter.mpr ⟨List.mem_append_right _ (List.mem_append_right _ (List.mem_append_right _ (List.mem_append_right _ (List.mem_append_right _ (List.mem_of_getElem? h))))), hg⟩
theorem tb_ws {ws : List Cond} (h : ws.all (fun w => decide (w ∈ lw_tbl) && goodWord w) = true) : ∀ w ∈ ws, w ∈ tbG := fun w hw => by
  have h1 := List.all_eq_true.mp h w hw
  simp only [Bool.and_eq_true, decide_eq_true_eq] at h1
  exact List.mem_filter.mpr ⟨h1.1, h1.2⟩
abbrev Cx : Type := va_G × ClassId × ClassId
abbrev cxT (z : Cx) : List (ClassId × FieldType) := [(z.2.1, FieldType.int), (z.2.2, FieldType.long)]
def gS (ov : Option Value) : Array Value → State → Outcome → State → Prop := fun _ st oc t => oc = .returned ov ∧ t.heap = st.heap
abbrev rPc (z : Cx) (w : va_W) (av : List Value) : Array Value → State → Prop := va_Pc av (fun U => va_P z.1 vwCl w U.heap ∧ va_K z.1 vwCl (cxT z) U)
abbrev mPc (z : Cx) (w : va_W) (sz : Nat) (av : List Value) : Array Value → State → Prop := va_Pc av (fun U => U.heap.size = sz ∧ va_P z.1 vwCl w U.heap ∧ va_K z.1 vwCl (cxT z) U ∧ va_D (fun _ => True) w)
def gM (z : Cx) (A : Nat → Prop) (ov : Option Value) (w : va_W) : Array Value → State → Outcome → State → Prop := fun _ st oc t => (oc = .returned ov ∧ va_P z.1 vwCl w t.heap ∧ va_K z.1 vwCl (cxT z) t ∧ va_D A w) ∧ va_F A st t

section GK
variable {p : Program} {l : Launch} {e : Env} {R : Room} {s : State} {m : MethodId} {args : Array Value} {below : List Frame} {meth : Method} {c : Code} {H : Heap} {locs : List Loc} {Q : State → Prop}
variable {cc : ByteArray} {pc : Nat} {ls : Array Slot} {rest : List Value}
theorem gz_eq (hexec : p.tables.exec = Jvm.exec) (hb : c.code = cc) {b : Bool} {off : Int} {tgt : Nat} (hdg : decode cc pc = .ok (.ifCond .eq off, 3)) (ht : (pc : Int) + off = (tgt : Int)) (kt : ¬ b = true → W p l e R s m args below meth c H locs 0 0 Q (F0 m tgt ls rest)) (kf : b = true → W p l e R s m args below meth c H locs 0 0 Q (F0 m (pc + 3) ls rest)) : W p l e R s m args below meth c H locs 0 0 Q (F0 m pc ls (.int (zB b) :: rest)) :=
  lv_if_eq hexec hb hdg ht (fun h => kt (zB_0 h)) (fun h => kf (zB_1 h))
theorem gz_ne (hexec : p.tables.exec = Jvm.exec) (hb : c.code = cc) {b : Bool} {off : Int} {tgt : Nat} (hdg : decode cc pc = .ok (.ifCond .ne off, 3)) (ht : (pc : Int) + off = (tgt : Int)) (kt : b = true → W p l e R s m args below meth c H locs 0 0 Q (F0 m tgt ls rest)) (kf : ¬ b = true → W p l e R s m args below meth c H locs 0 0 Q (F0 m (pc + 3) ls rest)) : W p l e R s m args below meth c H locs 0 0 Q (F0 m pc ls (.int (zB b) :: rest)) :=
  lv_if_ne hexec hb hdg ht (fun h => kt (zB_1 h)) (fun h => kf (zB_0 h))
theorem zB_inj {a b : Bool} (h : zB a = zB b) : a = b := by
  cases a <;> cases b <;> first | rfl | exact absurd h (by decide)
theorem gz_cne (hexec : p.tables.exec = Jvm.exec) (hb : c.code = cc) {a b : Bool} {off : Int} {tgt : Nat} (hdg : decode cc pc = .ok (.if_icmp .ne off, 3)) (ht : (pc : Int) + off = (tgt : Int)) (kt : ¬ a = b → W p l e R s m args below meth c H locs 0 0 Q (F0 m tgt ls rest)) (kf : a = b → W p l e R s m args below meth c H locs 0 0 Q (F0 m (pc + 3) ls rest)) : W p l e R s m args below meth c H locs 0 0 Q (F0 m pc ls (.int (zB b) :: .int (zB a) :: rest)) :=
  lv_icmp_ne hexec hb hdg ht (fun h => kt (fun q => h (by rw [q]))) (fun h => kf (zB_inj h))
theorem gz_ceq (hexec : p.tables.exec = Jvm.exec) (hb : c.code = cc) {a b : Bool} {off : Int} {tgt : Nat} (hdg : decode cc pc = .ok (.if_icmp .eq off, 3)) (ht : (pc : Int) + off = (tgt : Int)) (kt : a = b → W p l e R s m args below meth c H locs 0 0 Q (F0 m tgt ls rest)) (kf : ¬ a = b → W p l e R s m args below meth c H locs 0 0 Q (F0 m (pc + 3) ls rest)) : W p l e R s m args below meth c H locs 0 0 Q (F0 m pc ls (.int (zB b) :: .int (zB a) :: rest)) :=
  lv_icmp_eq hexec hb hdg ht (fun h => kt (zB_inj h)) (fun h => kf (fun q => h (by rw [q])))
theorem gl_eq (hexec : p.tables.exec = Jvm.exec) (hb : c.code = cc) {x y : Int64} {off : Int} {tgt : Nat} (hd0 : decode cc pc = .ok (.lcmp, 1)) (hdg : decode cc (pc + 1) = .ok (.ifCond .eq off, 3)) (ht : ((pc + 1 : Nat) : Int) + off = (tgt : Int)) (kt : x = y → W p l e R s m args below meth c H locs 0 0 Q (F0 m tgt ls rest)) (kf : ¬ x = y → W p l e R s m args below meth c H locs 0 0 Q (F0 m (pc + 4) ls rest)) : W p l e R s m args below meth c H locs 0 0 Q (F0 m pc ls (.long y :: .long x :: rest)) :=
  W.lcmp hexec hb hd0 (lv_if_eq hexec hb hdg ht (fun h => kt ((lg_cmp_eq x y).mp h)) (fun h => kf (fun q => h ((lg_cmp_eq x y).mpr q))))
theorem gl_ne (hexec : p.tables.exec = Jvm.exec) (hb : c.code = cc) {x y : Int64} {off : Int} {tgt : Nat} (hd0 : decode cc pc = .ok (.lcmp, 1)) (hdg : decode cc (pc + 1) = .ok (.ifCond .ne off, 3)) (ht : ((pc + 1 : Nat) : Int) + off = (tgt : Int)) (kt : ¬ x = y → W p l e R s m args below meth c H locs 0 0 Q (F0 m tgt ls rest)) (kf : x = y → W p l e R s m args below meth c H locs 0 0 Q (F0 m (pc + 4) ls rest)) : W p l e R s m args below meth c H locs 0 0 Q (F0 m pc ls (.long y :: .long x :: rest)) :=
  W.lcmp hexec hb hd0 (lv_if_ne hexec hb hdg ht (fun h => kt (fun q => h ((lg_cmp_eq x y).mpr q))) (fun h => kf ((lg_cmp_eq x y).mp h)))
theorem gl_lt (hexec : p.tables.exec = Jvm.exec) (hb : c.code = cc) {x y : Int64} {off : Int} {tgt : Nat} (hd0 : decode cc pc = .ok (.lcmp, 1)) (hdg : decode cc (pc + 1) = .ok (.ifCond .lt off, 3)) (ht : ((pc + 1 : Nat) : Int) + off = (tgt : Int)) (kt : x < y → W p l e R s m args below meth c H locs 0 0 Q (F0 m tgt ls rest)) (kf : ¬ x < y → W p l e R s m args below meth c H locs 0 0 Q (F0 m (pc + 4) ls rest)) : W p l e R s m args below meth c H locs 0 0 Q (F0 m pc ls (.long y :: .long x :: rest)) :=
  W.lcmp hexec hb hd0 (lv_if_lt hexec hb hdg ht (fun h => kt ((lg_cmp_lt x y).mp h)) (fun h => kf (fun q => h ((lg_cmp_lt x y).mpr q))))
theorem gl_ge (hexec : p.tables.exec = Jvm.exec) (hb : c.code = cc) {x y : Int64} {off : Int} {tgt : Nat} (hd0 : decode cc pc = .ok (.lcmp, 1)) (hdg : decode cc (pc + 1) = .ok (.ifCond .ge off, 3)) (ht : ((pc + 1 : Nat) : Int) + off = (tgt : Int)) (kt : y ≤ x → W p l e R s m args below meth c H locs 0 0 Q (F0 m tgt ls rest)) (kf : ¬ y ≤ x → W p l e R s m args below meth c H locs 0 0 Q (F0 m (pc + 4) ls rest)) : W p l e R s m args below meth c H locs 0 0 Q (F0 m pc ls (.long y :: .long x :: rest)) :=
  W.lcmp hexec hb hd0 (lv_if_ge hexec hb hdg ht (fun h => kt ((lg_cmp_ge x y).mp h)) (fun h => kf (fun q => h ((lg_cmp_ge x y).mpr q))))
theorem gl_gt (hexec : p.tables.exec = Jvm.exec) (hb : c.code = cc) {x y : Int64} {off : Int} {tgt : Nat} (hd0 : decode cc pc = .ok (.lcmp, 1)) (hdg : decode cc (pc + 1) = .ok (.ifCond .gt off, 3)) (ht : ((pc + 1 : Nat) : Int) + off = (tgt : Int)) (kt : y < x → W p l e R s m args below meth c H locs 0 0 Q (F0 m tgt ls rest)) (kf : ¬ y < x → W p l e R s m args below meth c H locs 0 0 Q (F0 m (pc + 4) ls rest)) : W p l e R s m args below meth c H locs 0 0 Q (F0 m pc ls (.long y :: .long x :: rest)) :=
  W.lcmp hexec hb hd0 (lv_if_gt hexec hb hdg ht (fun h => kt ((lg_cmp_gt x y).mp h)) (fun h => kf (fun q => h ((lg_cmp_gt x y).mpr q))))
theorem gl_le (hexec : p.tables.exec = Jvm.exec) (hb : c.code = cc) {x y : Int64} {off : Int} {tgt : Nat} (hd0 : decode cc pc = .ok (.lcmp, 1)) (hdg : decode cc (pc + 1) = .ok (.ifCond .le off, 3)) (ht : ((pc + 1 : Nat) : Int) + off = (tgt : Int)) (kt : x ≤ y → W p l e R s m args below meth c H locs 0 0 Q (F0 m tgt ls rest)) (kf : ¬ x ≤ y → W p l e R s m args below meth c H locs 0 0 Q (F0 m (pc + 4) ls rest)) : W p l e R s m args below meth c H locs 0 0 Q (F0 m pc ls (.long y :: .long x :: rest)) :=
  W.lcmp hexec hb hd0 (lv_if_le hexec hb hdg ht (fun h => kt ((lg_cmp_le x y).mp h)) (fun h => kf (fun q => h ((lg_cmp_le x y).mpr q))))
theorem gt_in (hexec : p.tables.exec = Jvm.exec) (hb : c.code = cc) {dflt lo hi : Int} {offs : Array Int} {len : Nat} {x k : Int32} {off : Int} {tgt : Nat} (hdg : decode cc pc = .ok (.tableswitch dflt lo hi offs, len)) (hx : x = k) (h1 : ¬ k.toInt < lo) (h2 : ¬ hi < k.toInt) (ho : offs[(k.toInt - lo).toNat]? = some off) (ht : (pc : Int) + off = (tgt : Int)) (k : W p l e R s m args below meth c H locs 0 0 Q (F0 m tgt ls rest)) : W p l e R s m args below meth c H locs 0 0 Q (F0 m pc ls (.int x :: rest)) := by
  subst hx
  exact lv_tableIn hexec hb hdg h1 h2 ho ht k
theorem gk_in (hexec : p.tables.exec = Jvm.exec) (hb : c.code = cc) {dflt : Int} {ps : Array (Int × Int)} {len : Nat} {x k : Int32} {off : Int} {tgt : Nat} (hdg : decode cc pc = .ok (.lookupswitch dflt ps, len)) (hx : x = k) (hp : (ps.toList.zip (ps.toList.drop 1)).all (fun (a, next) => a.1 < next.1) = true) (ho : Op.lookupswitch.offset ps.toList dflt k.toInt = off) (ht : (pc : Int) + off = (tgt : Int)) (k : W p l e R s m args below meth c H locs 0 0 Q (F0 m tgt ls rest)) : W p l e R s m args below meth c H locs 0 0 Q (F0 m pc ls (.int x :: rest)) := by
  subst hx
  exact lv_lookup hexec hb hdg hp ho ht k
theorem ks {y : MethodName} {bytes : ByteArray} {maxL nL n index : Nat} {ret : Option FieldType} {rm : Room} {own : String} {As st : List Value} {ov : Option Value} (S : CallFix p m c cc nL s args tbG own) (hM : Met l y (wsC y bytes maxL ret) rm (fun v _ => v = As.toArray) (gS ov) 0 0 (fun _ => False)) (cw : CallB R s args own index y bytes maxL ret (wsC y bytes maxL ret) rm 0 0 n ∧ (Cond.static y).before args s = true) (hn : As.length = n) (hsz : ls.size = nL) (hst : st = As.reverse ++ rest) (hcat : (rest.map fun v => v.category).sum ≤ 8) (hdg : decode cc pc = .ok (.invokestatic index, 3)) (kk : W p l e R s m args below meth c H locs 0 0 Q (F0 m (pc + 3) ls (ov.toList ++ rest))) : W p l e R s m args below meth c H locs 0 0 Q (F0 m pc ls st) := by
  subst hst
  intro T hT X
  obtain ⟨v, st₀, t, T', L, h0, X', hL, e1, ⟨hv, hh⟩, st⟩ := W.runS S hM cw preEq (g := F0 m pc ls (As.reverse ++ rest)) rfl hn hsz rfl (lv_room (ls := ls) (pc := pc) (m := m) (rest := As.reverse ++ rest) hcat) hdg ⟨Nat.zero_le _, Nat.zero_le _⟩ T hT X
  cases hv
  obtain ⟨t2, a1, b1⟩ := kk T' (by rw [e1, hh, h0]) (Stand.forget X' (fun q h => (hL q h).elim))
  exact ⟨t2, st t2 a1, b1⟩
theorem kr {z : Cx} {w : va_W} {y : MethodName} {bytes : ByteArray} {maxL nL n index : Nat} {ret : Option FieldType} {rm : Room} {own C : String} {As st : List Value} {ov : Option Value} {b q0 ci : Nat} {q : vw_C} {fs : List Value} (S : CallFix p m c cc nL s args tbG own) (hK : va_K z.1 vwCl (cxT z) s) (hP : va_P z.1 vwCl w H) (hM : Met l y (wsC y bytes maxL ret) rm (rPc z w (.ref b :: As)) (gS ov) 0 0 (fun _ => False)) (cw : CallW R s args own C index y bytes maxL ret (wsC y bytes maxL ret) rm 0 0 n) (hc : vwCl[ci]? = some q) (hC : q.1 = C) (he : w[q0]? = some (b, .inr (ci, fs))) (hn : As.length = n) (hsz : ls.size = nL) (hst : st = As.reverse ++ .ref b :: rest) (hcat : (rest.map fun v => v.category).sum ≤ 8) (hdg : decode cc pc = .ok (.invokevirtual index, 3)) (kk : W p l e R s m args below meth c H locs 0 0 Q (F0 m (pc + 3) ls (ov.toList ++ rest))) : W p l e R s m args below meth c H locs 0 0 Q (F0 m pc ls st) := by
  subst hst
  subst hC
  intro T hT X
  obtain ⟨v, st₀, t, T', L, h0, X', hL, e1, ⟨hv, hh⟩, st⟩ := W.runV S hM cw ⟨fun a U g mk q => ⟨q.1, q.2.1, va_K.moved (u := U) (U := U.calling g mk a) (Vm.Alike.refl U.vm) q.2.2⟩, va_recv hK hP hc he, fun U hU hW => ⟨rfl, by rw [hU]; exact hP, va_K.moved hW.alike hK⟩⟩ (g := F0 m pc ls (As.reverse ++ .ref b :: rest)) rfl hn hsz rfl (lv_room (ls := ls) (pc := pc) (m := m) (rest := As.reverse ++ .ref b :: rest) hcat) hdg ⟨Nat.zero_le _, Nat.zero_le _⟩ T hT X
  cases hv
  obtain ⟨t2, a1, b1⟩ := kk T' (by rw [e1, hh, h0]) (Stand.forget X' (fun q h => (hL q h).elim))
  exact ⟨t2, st t2 a1, b1⟩
theorem km {z : Cx} {w w' : va_W} {A : Nat → Prop} {y : MethodName} {bytes : ByteArray} {maxL nL n index : Nat} {ret : Option FieldType} {rm : Room} {own C : String} {As st : List Value} {ov : Option Value} {b q0 ci : Nat} {q : vw_C} {fs : List Value} (S : CallFix p m c cc nL s args tbG own) (hK : va_K z.1 vwCl (cxT z) s) (hA : ∀ q, s.heap.size ≤ q → A q) (hP : va_P z.1 vwCl w H) (hD : va_D A w) (hS : va_S A s.heap H locs) (hM : Met l y (wsC y bytes maxL ret) rm (mPc z w H.size (.ref b :: As)) (gM z (va_A w H.size) ov w') 0 0 (va_A w H.size)) (cw : CallW R s args own C index y bytes maxL ret (wsC y bytes maxL ret) rm 0 0 n) (hc : vwCl[ci]? = some q) (hC : q.1 = C) (he : w[q0]? = some (b, .inr (ci, fs))) (hn : As.length = n) (hsz : ls.size = nL) (hst : st = As.reverse ++ .ref b :: rest) (hcat : (rest.map fun v => v.category).sum ≤ 8) (hdg : decode cc pc = .ok (.invokevirtual index, 3)) (kk : ∀ (H : Heap) (locs : List Loc), va_P z.1 vwCl w' H → va_D A w' → va_S A s.heap H locs → W p l e R s m args below meth c H locs 0 0 Q (F0 m (pc + 3) ls (ov.toList ++ rest))) : W p l e R s m args below meth c H locs 0 0 Q (F0 m pc ls st) := by
  subst hst
  subst hC
  have hF : ∀ q, va_A w H.size q → A q := fun q h => by
    rcases h with ⟨k, e, h⟩ | h
    · exact hD.2 k _ h
    · exact hA q (Nat.le_trans hS.1 h)
  intro T hT X
  obtain ⟨v, st₀, t, T', L, h0, X', hL, e1, e2, ⟨⟨hv, hP1, hK1, hD1⟩, hz, hk⟩, st⟩ := va_runV S hM cw ⟨fun a U g mk q => ⟨q.1, q.2.1, q.2.2.1, va_K.moved (u := U) (U := U.calling g mk a) (Vm.Alike.refl U.vm) q.2.2.2.1, q.2.2.2.2⟩, va_recv hK hP hc he, fun U hU hW => ⟨rfl, by rw [hU], by rw [hU]; exact hP, va_K.moved hW.alike hK, hD.weaken (fun _ _ _ _ => trivial)⟩⟩ (g := F0 m pc ls (As.reverse ++ .ref b :: rest)) rfl hn hsz rfl (lv_room (ls := ls) (pc := pc) (m := m) (rest := As.reverse ++ .ref b :: rest) hcat) hdg ⟨Nat.zero_le _, Nat.zero_le _⟩ T hT X
  cases hv
  rw [h0] at hz hk
  obtain ⟨t2, a1, b1⟩ := kk T'.heap (locs ++ L) (by rw [e1]; exact hP1) (hD1.weaken (fun k q _ h => hF q.1 h)) ⟨Nat.le_trans hS.1 (by rw [e1]; exact hz), fun q h1 h2 => by rw [e1, hk q (Nat.lt_of_lt_of_le h1 hS.1) (fun z => h2 (hF q z))]; exact hS.2.1 q h1 h2, fun q hq => by
      rcases List.mem_append.mp hq with h | h
      · exact hS.2.2 q h
      · exact hF _ (hL q h)⟩ T' rfl X'
  exact ⟨t2, st t2 a1, b1⟩
end GK
theorem tb_cB {R : Room} {s : State} {args : Array Value} {own : String} {index maxL : Nat} {y : MethodName} {bytes : ByteArray} {ret : Option FieldType} {rm : Room} (n : Nat) (hts : ∀ w ∈ tbG, w.before args s = true) (hc : Cond.code y bytes maxL ret ∈ tbG) (hi : Cond.initialized y.cls ∈ tbG) (hl : Cond.methodLink own index y ∈ tbG) (hrc : rm.cells = 0) (hrs : rm.slots = 0) (hd : y.cls ≠ "java/lang/invoke/MethodHandle" ∧ y.cls ≠ "java/lang/invoke/VarHandle" ∧ (parseMethodDescriptor y.desc).map (fun d => d.parameters.length) = some n) (hR : rm.frames + 1 ≤ R.frames ∧ 8 + (maxL + 11) + rm.locals ≤ R.locals) : CallB R s args own index y bytes maxL ret (wsC y bytes maxL ret) rm 0 0 n :=
  callB_of n hts (tb_goodC hc) rfl hrc hrs (hts _ hi) (hts _ hl) hd hR
theorem mk_s_i {l : Launch} {y : MethodName} {cc : ByteArray} {maxL : Nat} {rm : Room} {own : String} (hy : plainName y.cls = true) (ho : y.cls = own) (av : List Value) (hlen : (lg_sl av).length ≤ maxL) {res : Int32} (walk : ∀ (p : Program) (e : Env) (s : State) (m : MethodId) (below : List Frame) (meth : Method) (c : Code) (H : Heap) (locs : List Loc) (Q : State → Prop) (ls : Array Slot), CallFix p m c cc maxL s av.toArray tbG own → lv_has ls maxL (lv_args 0 av) → (∀ (v : Int32) (pc : Nat) (ls : Array Slot), v = res → decode cc pc = .ok (.ireturn, 1) → W p l e rm s m av.toArray below meth c H locs 0 0 Q (F0 m pc ls [.int v])) → W p l e rm s m av.toArray below meth c H locs 0 0 Q (F0 m 0 ls [])) : Met l y (wsC y cc maxL (some .int)) rm (fun v _ => v = av.toArray) (gS (some (.int res))) 0 0 (fun _ => False) := by
  refine Met.ofW (cc := cc) (maxL := maxL) (ret := (some .int)) hy rfl ?_
  intro p e s m args below meth c s₁ B hml hv
  subst hv
  have hts := atoms_spec (ws := wsC y cc maxL (some .int)) B.pre
  have hown : s.vm.findClass own = some m.cls := by rw [← ho]; exact findClass_of_methodNamed B.named
  have hl := lv_entry av (n := maxL) hlen
  rw [lg_entry_eq]
  generalize (lg_sl av ++ List.replicate (maxL - (lg_sl av).length) Slot.unset).toArray = ls at hl ⊢
  have hlocks := B.notSynchronized
  refine walk p e s m below meth c s.heap [] _ ls ⟨B.exec, B.bytes, hml, hown, fun w h => hts w (List.mem_cons_of_mem _ h)⟩ hl (fun v pc ls hv hd => ?_)
  subst hv
  exact W.iret B.exec B.bytes B.returns (fun t ht _ => ⟨rfl, ht⟩) (fun q h => by cases h) hd
theorem mk_r_i {l : Launch} {z : Cx} {w : va_W} {y : MethodName} {cc : ByteArray} {maxL : Nat} {rm : Room} {own : String} (hy : plainName y.cls = true) (ho : y.cls = own) (av : List Value) (hlen : (lg_sl av).length ≤ maxL) {res : Int32} (walk : ∀ (p : Program) (e : Env) (s : State) (m : MethodId) (below : List Frame) (meth : Method) (c : Code) (H : Heap) (locs : List Loc) (Q : State → Prop) (ls : Array Slot), CallFix p m c cc maxL s av.toArray tbG own → va_K z.1 vwCl (cxT z) s → va_P z.1 vwCl w H → lv_has ls maxL (lv_args 0 av) → (∀ (v : Int32) (pc : Nat) (ls : Array Slot), v = res → decode cc pc = .ok (.ireturn, 1) → W p l e rm s m av.toArray below meth c H locs 0 0 Q (F0 m pc ls [.int v])) → W p l e rm s m av.toArray below meth c H locs 0 0 Q (F0 m 0 ls [])) : Met l y (wsC y cc maxL (some .int)) rm (rPc z w av) (gS (some (.int res))) 0 0 (fun _ => False) := by
  refine Met.ofW (cc := cc) (maxL := maxL) (ret := (some .int)) hy rfl ?_
  intro p e s m args below meth c s₁ B hml hv
  obtain ⟨hv, hP, hK⟩ := hv
  subst hv
  have hts := atoms_spec (ws := wsC y cc maxL (some .int)) B.pre
  have hown : s.vm.findClass own = some m.cls := by rw [← ho]; exact findClass_of_methodNamed B.named
  have hl := lv_entry av (n := maxL) hlen
  rw [lg_entry_eq]
  generalize (lg_sl av ++ List.replicate (maxL - (lg_sl av).length) Slot.unset).toArray = ls at hl ⊢
  have hlocks := B.notSynchronized
  refine walk p e s m below meth c s.heap [] _ ls ⟨B.exec, B.bytes, hml, hown, fun w h => hts w (List.mem_cons_of_mem _ h)⟩ hK hP hl (fun v pc ls hv hd => ?_)
  subst hv
  exact W.iret B.exec B.bytes B.returns (fun t ht _ => ⟨rfl, ht⟩) (fun q h => by cases h) hd
theorem mk_s_l {l : Launch} {y : MethodName} {cc : ByteArray} {maxL : Nat} {rm : Room} {own : String} (hy : plainName y.cls = true) (ho : y.cls = own) (av : List Value) (hlen : (lg_sl av).length ≤ maxL) {res : Int64} (walk : ∀ (p : Program) (e : Env) (s : State) (m : MethodId) (below : List Frame) (meth : Method) (c : Code) (H : Heap) (locs : List Loc) (Q : State → Prop) (ls : Array Slot), CallFix p m c cc maxL s av.toArray tbG own → lv_has ls maxL (lv_args 0 av) → (∀ (v : Int64) (pc : Nat) (ls : Array Slot), v = res → decode cc pc = .ok (.lreturn, 1) → W p l e rm s m av.toArray below meth c H locs 0 0 Q (F0 m pc ls [.long v])) → W p l e rm s m av.toArray below meth c H locs 0 0 Q (F0 m 0 ls [])) : Met l y (wsC y cc maxL (some .long)) rm (fun v _ => v = av.toArray) (gS (some (.long res))) 0 0 (fun _ => False) := by
  refine Met.ofW (cc := cc) (maxL := maxL) (ret := (some .long)) hy rfl ?_
  intro p e s m args below meth c s₁ B hml hv
  subst hv
  have hts := atoms_spec (ws := wsC y cc maxL (some .long)) B.pre
  have hown : s.vm.findClass own = some m.cls := by rw [← ho]; exact findClass_of_methodNamed B.named
  have hl := lv_entry av (n := maxL) hlen
  rw [lg_entry_eq]
  generalize (lg_sl av ++ List.replicate (maxL - (lg_sl av).length) Slot.unset).toArray = ls at hl ⊢
  have hlocks := B.notSynchronized
  refine walk p e s m below meth c s.heap [] _ ls ⟨B.exec, B.bytes, hml, hown, fun w h => hts w (List.mem_cons_of_mem _ h)⟩ hl (fun v pc ls hv hd => ?_)
  subst hv
  exact W.lret B.exec B.bytes B.returns (fun t ht _ => ⟨rfl, ht⟩) (fun q h => by cases h) hd
theorem mk_r_l {l : Launch} {z : Cx} {w : va_W} {y : MethodName} {cc : ByteArray} {maxL : Nat} {rm : Room} {own : String} (hy : plainName y.cls = true) (ho : y.cls = own) (av : List Value) (hlen : (lg_sl av).length ≤ maxL) {res : Int64} (walk : ∀ (p : Program) (e : Env) (s : State) (m : MethodId) (below : List Frame) (meth : Method) (c : Code) (H : Heap) (locs : List Loc) (Q : State → Prop) (ls : Array Slot), CallFix p m c cc maxL s av.toArray tbG own → va_K z.1 vwCl (cxT z) s → va_P z.1 vwCl w H → lv_has ls maxL (lv_args 0 av) → (∀ (v : Int64) (pc : Nat) (ls : Array Slot), v = res → decode cc pc = .ok (.lreturn, 1) → W p l e rm s m av.toArray below meth c H locs 0 0 Q (F0 m pc ls [.long v])) → W p l e rm s m av.toArray below meth c H locs 0 0 Q (F0 m 0 ls [])) : Met l y (wsC y cc maxL (some .long)) rm (rPc z w av) (gS (some (.long res))) 0 0 (fun _ => False) := by
  refine Met.ofW (cc := cc) (maxL := maxL) (ret := (some .long)) hy rfl ?_
  intro p e s m args below meth c s₁ B hml hv
  obtain ⟨hv, hP, hK⟩ := hv
  subst hv
  have hts := atoms_spec (ws := wsC y cc maxL (some .long)) B.pre
  have hown : s.vm.findClass own = some m.cls := by rw [← ho]; exact findClass_of_methodNamed B.named
  have hl := lv_entry av (n := maxL) hlen
  rw [lg_entry_eq]
  generalize (lg_sl av ++ List.replicate (maxL - (lg_sl av).length) Slot.unset).toArray = ls at hl ⊢
  have hlocks := B.notSynchronized
  refine walk p e s m below meth c s.heap [] _ ls ⟨B.exec, B.bytes, hml, hown, fun w h => hts w (List.mem_cons_of_mem _ h)⟩ hK hP hl (fun v pc ls hv hd => ?_)
  subst hv
  exact W.lret B.exec B.bytes B.returns (fun t ht _ => ⟨rfl, ht⟩) (fun q h => by cases h) hd
theorem mk_s_z {l : Launch} {y : MethodName} {cc : ByteArray} {maxL : Nat} {rm : Room} {own : String} (hy : plainName y.cls = true) (ho : y.cls = own) (av : List Value) (hlen : (lg_sl av).length ≤ maxL) {res : Bool} (walk : ∀ (p : Program) (e : Env) (s : State) (m : MethodId) (below : List Frame) (meth : Method) (c : Code) (H : Heap) (locs : List Loc) (Q : State → Prop) (ls : Array Slot), CallFix p m c cc maxL s av.toArray tbG own → lv_has ls maxL (lv_args 0 av) → (∀ (v : Bool) (pc : Nat) (ls : Array Slot), v = res → decode cc pc = .ok (.ireturn, 1) → W p l e rm s m av.toArray below meth c H locs 0 0 Q (F0 m pc ls [.int (zB v)])) → W p l e rm s m av.toArray below meth c H locs 0 0 Q (F0 m 0 ls [])) : Met l y (wsC y cc maxL (some .boolean)) rm (fun v _ => v = av.toArray) (gS (some (.int (zB res)))) 0 0 (fun _ => False) := by
  refine Met.ofW (cc := cc) (maxL := maxL) (ret := (some .boolean)) hy rfl ?_
  intro p e s m args below meth c s₁ B hml hv
  subst hv
  have hts := atoms_spec (ws := wsC y cc maxL (some .boolean)) B.pre
  have hown : s.vm.findClass own = some m.cls := by rw [← ho]; exact findClass_of_methodNamed B.named
  have hl := lv_entry av (n := maxL) hlen
  rw [lg_entry_eq]
  generalize (lg_sl av ++ List.replicate (maxL - (lg_sl av).length) Slot.unset).toArray = ls at hl ⊢
  have hlocks := B.notSynchronized
  refine walk p e s m below meth c s.heap [] _ ls ⟨B.exec, B.bytes, hml, hown, fun w h => hts w (List.mem_cons_of_mem _ h)⟩ hl (fun v pc ls hv hd => ?_)
  subst hv
  exact W.zret B.exec B.bytes B.returns (zB_nar v) (fun t ht _ => ⟨rfl, ht⟩) (fun q h => by cases h) hd
theorem mk_r_z {l : Launch} {z : Cx} {w : va_W} {y : MethodName} {cc : ByteArray} {maxL : Nat} {rm : Room} {own : String} (hy : plainName y.cls = true) (ho : y.cls = own) (av : List Value) (hlen : (lg_sl av).length ≤ maxL) {res : Bool} (walk : ∀ (p : Program) (e : Env) (s : State) (m : MethodId) (below : List Frame) (meth : Method) (c : Code) (H : Heap) (locs : List Loc) (Q : State → Prop) (ls : Array Slot), CallFix p m c cc maxL s av.toArray tbG own → va_K z.1 vwCl (cxT z) s → va_P z.1 vwCl w H → lv_has ls maxL (lv_args 0 av) → (∀ (v : Bool) (pc : Nat) (ls : Array Slot), v = res → decode cc pc = .ok (.ireturn, 1) → W p l e rm s m av.toArray below meth c H locs 0 0 Q (F0 m pc ls [.int (zB v)])) → W p l e rm s m av.toArray below meth c H locs 0 0 Q (F0 m 0 ls [])) : Met l y (wsC y cc maxL (some .boolean)) rm (rPc z w av) (gS (some (.int (zB res)))) 0 0 (fun _ => False) := by
  refine Met.ofW (cc := cc) (maxL := maxL) (ret := (some .boolean)) hy rfl ?_
  intro p e s m args below meth c s₁ B hml hv
  obtain ⟨hv, hP, hK⟩ := hv
  subst hv
  have hts := atoms_spec (ws := wsC y cc maxL (some .boolean)) B.pre
  have hown : s.vm.findClass own = some m.cls := by rw [← ho]; exact findClass_of_methodNamed B.named
  have hl := lv_entry av (n := maxL) hlen
  rw [lg_entry_eq]
  generalize (lg_sl av ++ List.replicate (maxL - (lg_sl av).length) Slot.unset).toArray = ls at hl ⊢
  have hlocks := B.notSynchronized
  refine walk p e s m below meth c s.heap [] _ ls ⟨B.exec, B.bytes, hml, hown, fun w h => hts w (List.mem_cons_of_mem _ h)⟩ hK hP hl (fun v pc ls hv hd => ?_)
  subst hv
  exact W.zret B.exec B.bytes B.returns (zB_nar v) (fun t ht _ => ⟨rfl, ht⟩) (fun q h => by cases h) hd
theorem mk_m_i {l : Launch} {z : Cx} {S : Type} {wf : S → va_W} {σ : S} {y : MethodName} {cc : ByteArray} {maxL : Nat} {rm : Room} {own : String} (hy : plainName y.cls = true) (ho : y.cls = own) (sz : Nat) (av : List Value) (hlen : (lg_sl av).length ≤ maxL) {res : Int32 × S} (walk : ∀ (p : Program) (e : Env) (s : State) (m : MethodId) (below : List Frame) (meth : Method) (c : Code) (A : Nat → Prop) (H : Heap) (locs : List Loc) (Q : State → Prop) (ls : Array Slot), CallFix p m c cc maxL s av.toArray tbG own → va_K z.1 vwCl (cxT z) s → (∀ q, s.heap.size ≤ q → A q) → va_P z.1 vwCl (wf σ) H → va_D A (wf σ) → va_S A s.heap H locs → lv_has ls maxL (lv_args 0 av) → (∀ (v : Int32) (u : S) (H : Heap) (locs : List Loc) (pc : Nat) (ls : Array Slot), (v, u) = res → va_P z.1 vwCl (wf u) H → va_D A (wf u) → va_S A s.heap H locs → decode cc pc = .ok (.ireturn, 1) → W p l e rm s m av.toArray below meth c H locs 0 0 Q (F0 m pc ls [.int v])) → W p l e rm s m av.toArray below meth c H locs 0 0 Q (F0 m 0 ls [])) : Met l y (wsC y cc maxL (some .int)) rm (mPc z (wf σ) sz av) (gM z (va_A (wf σ) sz) (some (.int res.1)) (wf res.2)) 0 0 (va_A (wf σ) sz) := by
  refine Met.ofW (cc := cc) (maxL := maxL) (ret := (some .int)) hy rfl ?_
  intro p e s m args below meth c s₁ B hml hv
  obtain ⟨hv, hsz, hP, hK, hD0⟩ := hv
  subst hv
  subst hsz
  have hts := atoms_spec (ws := wsC y cc maxL (some .int)) B.pre
  have hown : s.vm.findClass own = some m.cls := by rw [← ho]; exact findClass_of_methodNamed B.named
  have hD := hD0.self (sz := s.heap.size)
  have hl := lv_entry av (n := maxL) hlen
  rw [lg_entry_eq]
  generalize (lg_sl av ++ List.replicate (maxL - (lg_sl av).length) Slot.unset).toArray = ls at hl ⊢
  have hlocks := B.notSynchronized
  refine walk p e s m below meth c (va_A (wf σ) s.heap.size) s.heap [] _ ls ⟨B.exec, B.bytes, hml, hown, fun w h => hts w (List.mem_cons_of_mem _ h)⟩ hK (fun q h => Or.inr h) hP hD va_S.rf hl (fun v u H locs pc ls hv hP hD hS hd => ?_)
  subst hv
  exact W.iret B.exec B.bytes B.returns (fun t ht hW => ⟨⟨rfl, by rw [ht]; exact hP, va_K.moved hW.alike hK, hD⟩, hS.F ht⟩) hS.2.2 hd
theorem mk_m_l {l : Launch} {z : Cx} {S : Type} {wf : S → va_W} {σ : S} {y : MethodName} {cc : ByteArray} {maxL : Nat} {rm : Room} {own : String} (hy : plainName y.cls = true) (ho : y.cls = own) (sz : Nat) (av : List Value) (hlen : (lg_sl av).length ≤ maxL) {res : Int64 × S} (walk : ∀ (p : Program) (e : Env) (s : State) (m : MethodId) (below : List Frame) (meth : Method) (c : Code) (A : Nat → Prop) (H : Heap) (locs : List Loc) (Q : State → Prop) (ls : Array Slot), CallFix p m c cc maxL s av.toArray tbG own → va_K z.1 vwCl (cxT z) s → (∀ q, s.heap.size ≤ q → A q) → va_P z.1 vwCl (wf σ) H → va_D A (wf σ) → va_S A s.heap H locs → lv_has ls maxL (lv_args 0 av) → (∀ (v : Int64) (u : S) (H : Heap) (locs : List Loc) (pc : Nat) (ls : Array Slot), (v, u) = res → va_P z.1 vwCl (wf u) H → va_D A (wf u) → va_S A s.heap H locs → decode cc pc = .ok (.lreturn, 1) → W p l e rm s m av.toArray below meth c H locs 0 0 Q (F0 m pc ls [.long v])) → W p l e rm s m av.toArray below meth c H locs 0 0 Q (F0 m 0 ls [])) : Met l y (wsC y cc maxL (some .long)) rm (mPc z (wf σ) sz av) (gM z (va_A (wf σ) sz) (some (.long res.1)) (wf res.2)) 0 0 (va_A (wf σ) sz) := by
  refine Met.ofW (cc := cc) (maxL := maxL) (ret := (some .long)) hy rfl ?_
  intro p e s m args below meth c s₁ B hml hv
  obtain ⟨hv, hsz, hP, hK, hD0⟩ := hv
  subst hv
  subst hsz
  have hts := atoms_spec (ws := wsC y cc maxL (some .long)) B.pre
  have hown : s.vm.findClass own = some m.cls := by rw [← ho]; exact findClass_of_methodNamed B.named
  have hD := hD0.self (sz := s.heap.size)
  have hl := lv_entry av (n := maxL) hlen
  rw [lg_entry_eq]
  generalize (lg_sl av ++ List.replicate (maxL - (lg_sl av).length) Slot.unset).toArray = ls at hl ⊢
  have hlocks := B.notSynchronized
  refine walk p e s m below meth c (va_A (wf σ) s.heap.size) s.heap [] _ ls ⟨B.exec, B.bytes, hml, hown, fun w h => hts w (List.mem_cons_of_mem _ h)⟩ hK (fun q h => Or.inr h) hP hD va_S.rf hl (fun v u H locs pc ls hv hP hD hS hd => ?_)
  subst hv
  exact W.lret B.exec B.bytes B.returns (fun t ht hW => ⟨⟨rfl, by rw [ht]; exact hP, va_K.moved hW.alike hK, hD⟩, hS.F ht⟩) hS.2.2 hd
theorem mk_m_z {l : Launch} {z : Cx} {S : Type} {wf : S → va_W} {σ : S} {y : MethodName} {cc : ByteArray} {maxL : Nat} {rm : Room} {own : String} (hy : plainName y.cls = true) (ho : y.cls = own) (sz : Nat) (av : List Value) (hlen : (lg_sl av).length ≤ maxL) {res : Bool × S} (walk : ∀ (p : Program) (e : Env) (s : State) (m : MethodId) (below : List Frame) (meth : Method) (c : Code) (A : Nat → Prop) (H : Heap) (locs : List Loc) (Q : State → Prop) (ls : Array Slot), CallFix p m c cc maxL s av.toArray tbG own → va_K z.1 vwCl (cxT z) s → (∀ q, s.heap.size ≤ q → A q) → va_P z.1 vwCl (wf σ) H → va_D A (wf σ) → va_S A s.heap H locs → lv_has ls maxL (lv_args 0 av) → (∀ (v : Bool) (u : S) (H : Heap) (locs : List Loc) (pc : Nat) (ls : Array Slot), (v, u) = res → va_P z.1 vwCl (wf u) H → va_D A (wf u) → va_S A s.heap H locs → decode cc pc = .ok (.ireturn, 1) → W p l e rm s m av.toArray below meth c H locs 0 0 Q (F0 m pc ls [.int (zB v)])) → W p l e rm s m av.toArray below meth c H locs 0 0 Q (F0 m 0 ls [])) : Met l y (wsC y cc maxL (some .boolean)) rm (mPc z (wf σ) sz av) (gM z (va_A (wf σ) sz) (some (.int (zB res.1))) (wf res.2)) 0 0 (va_A (wf σ) sz) := by
  refine Met.ofW (cc := cc) (maxL := maxL) (ret := (some .boolean)) hy rfl ?_
  intro p e s m args below meth c s₁ B hml hv
  obtain ⟨hv, hsz, hP, hK, hD0⟩ := hv
  subst hv
  subst hsz
  have hts := atoms_spec (ws := wsC y cc maxL (some .boolean)) B.pre
  have hown : s.vm.findClass own = some m.cls := by rw [← ho]; exact findClass_of_methodNamed B.named
  have hD := hD0.self (sz := s.heap.size)
  have hl := lv_entry av (n := maxL) hlen
  rw [lg_entry_eq]
  generalize (lg_sl av ++ List.replicate (maxL - (lg_sl av).length) Slot.unset).toArray = ls at hl ⊢
  have hlocks := B.notSynchronized
  refine walk p e s m below meth c (va_A (wf σ) s.heap.size) s.heap [] _ ls ⟨B.exec, B.bytes, hml, hown, fun w h => hts w (List.mem_cons_of_mem _ h)⟩ hK (fun q h => Or.inr h) hP hD va_S.rf hl (fun v u H locs pc ls hv hP hD hS hd => ?_)
  subst hv
  exact W.zret B.exec B.bytes B.returns (zB_nar v) (fun t ht hW => ⟨⟨rfl, by rw [ht]; exact hP, va_K.moved hW.alike hK, hD⟩, hS.F ht⟩) hS.2.2 hd
theorem mk_m_v {l : Launch} {z : Cx} {S : Type} {wf : S → va_W} {σ : S} {y : MethodName} {cc : ByteArray} {maxL : Nat} {rm : Room} {own : String} (hy : plainName y.cls = true) (ho : y.cls = own) (sz : Nat) (av : List Value) (hlen : (lg_sl av).length ≤ maxL) {res : S} (walk : ∀ (p : Program) (e : Env) (s : State) (m : MethodId) (below : List Frame) (meth : Method) (c : Code) (A : Nat → Prop) (H : Heap) (locs : List Loc) (Q : State → Prop) (ls : Array Slot), CallFix p m c cc maxL s av.toArray tbG own → va_K z.1 vwCl (cxT z) s → (∀ q, s.heap.size ≤ q → A q) → va_P z.1 vwCl (wf σ) H → va_D A (wf σ) → va_S A s.heap H locs → lv_has ls maxL (lv_args 0 av) → (∀ (u : S) (H : Heap) (locs : List Loc) (pc : Nat) (ls : Array Slot), u = res → va_P z.1 vwCl (wf u) H → va_D A (wf u) → va_S A s.heap H locs → decode cc pc = .ok (.return_, 1) → W p l e rm s m av.toArray below meth c H locs 0 0 Q (F0 m pc ls [])) → W p l e rm s m av.toArray below meth c H locs 0 0 Q (F0 m 0 ls [])) : Met l y (wsC y cc maxL none) rm (mPc z (wf σ) sz av) (gM z (va_A (wf σ) sz) (none) (wf res)) 0 0 (va_A (wf σ) sz) := by
  refine Met.ofW (cc := cc) (maxL := maxL) (ret := none) hy rfl ?_
  intro p e s m args below meth c s₁ B hml hv
  obtain ⟨hv, hsz, hP, hK, hD0⟩ := hv
  subst hv
  subst hsz
  have hts := atoms_spec (ws := wsC y cc maxL none) B.pre
  have hown : s.vm.findClass own = some m.cls := by rw [← ho]; exact findClass_of_methodNamed B.named
  have hD := hD0.self (sz := s.heap.size)
  have hl := lv_entry av (n := maxL) hlen
  rw [lg_entry_eq]
  generalize (lg_sl av ++ List.replicate (maxL - (lg_sl av).length) Slot.unset).toArray = ls at hl ⊢
  have hlocks := B.notSynchronized
  refine walk p e s m below meth c (va_A (wf σ) s.heap.size) s.heap [] _ ls ⟨B.exec, B.bytes, hml, hown, fun w h => hts w (List.mem_cons_of_mem _ h)⟩ hK (fun q h => Or.inr h) hP hD va_S.rf hl (fun u H locs pc ls hv hP hD hS hd => ?_)
  subst hv
  exact W.vret B.exec B.bytes B.returns (fun t ht hW => ⟨⟨rfl, by rw [ht]; exact hP, va_K.moved hW.alike hK, hD⟩, hS.F ht⟩) hS.2.2 hd
end
section
theorem ti_L : Cond.initialized RL ∈ tbG := tb_1 0 rfl rfl
theorem ti_X11 : Cond.initialized RX11 ∈ tbG := tb_1 1 rfl rfl
theorem ti_X4 : Cond.initialized RX4 ∈ tbG := tb_1 2 rfl rfl
theorem ti_X8 : Cond.initialized RX8 ∈ tbG := tb_1 3 rfl rfl
theorem ti_X10 : Cond.initialized RX10 ∈ tbG := tb_1 4 rfl rfl
theorem ti_X6 : Cond.initialized RX6 ∈ tbG := tb_1 5 rfl rfl
theorem ti_X9 : Cond.initialized RX9 ∈ tbG := tb_1 6 rfl rfl
theorem ti_X5 : Cond.initialized RX5 ∈ tbG := tb_1 7 rfl rfl
theorem ti_X7 : Cond.initialized RX7 ∈ tbG := tb_1 8 rfl rfl
theorem ti_X0 : Cond.initialized RX0 ∈ tbG := tb_1 9 rfl rfl
theorem ti_X2 : Cond.initialized RX2 ∈ tbG := tb_1 10 rfl rfl
theorem ti_X3 : Cond.initialized RX3 ∈ tbG := tb_1 11 rfl rfl
theorem ti_X12 : Cond.initialized RX12 ∈ tbG := tb_1 12 rfl rfl
theorem ti_X1 : Cond.initialized RX1 ∈ tbG := tb_1 13 rfl rfl
theorem ti_J13 : Cond.initialized RJ13 ∈ tbG := tb_1 14 rfl rfl
theorem ti_J6 : Cond.initialized RJ6 ∈ tbG := tb_1 15 rfl rfl
theorem ti_J9 : Cond.initialized RJ9 ∈ tbG := tb_1 16 rfl rfl
theorem tq_L_7 : Cond.classLink RL 7 RX11 ∈ tbG := tb_1 17 rfl rfl
theorem tn_X11 : Cond.instantiable RX11 4 ∈ tbG := tb_1 18 rfl rfl
theorem tl_L_9 : Cond.methodLink RL 9 yX11_init ∈ tbG := tb_1 19 rfl rfl
theorem tm_X11_init : Cond.instanceMethod yX11_init ∈ tbG := tb_1 20 rfl rfl
theorem tc_X11_init : Cond.code yX11_init cX11_init 1 none ∈ tbG := tb_1 21 rfl rfl
theorem tl_X11_1 : Cond.methodLink RX11 1 objectInit ∈ tbG := tb_1 22 rfl rfl
theorem tm_objectInit : Cond.instanceMethod objectInit ∈ tbG := tb_1 23 rfl rfl
theorem tq_X11_7 : Cond.classLink RX11 7 RX4 ∈ tbG := tb_1 25 rfl rfl
theorem tn_X4 : Cond.instantiable RX4 1 ∈ tbG := tb_1 26 rfl rfl
theorem tl_X11_9 : Cond.methodLink RX11 9 yX4_init ∈ tbG := tb_1 27 rfl rfl
theorem tm_X4_init : Cond.instanceMethod yX4_init ∈ tbG := tb_1 28 rfl rfl
theorem tc_X4_init : Cond.code yX4_init cX4_init 1 none ∈ tbG := tb_1 29 rfl rfl
theorem tl_X4_1 : Cond.methodLink RX4 1 objectInit ∈ tbG := tb_1 30 rfl rfl
theorem tf_X4_9 : Cond.fieldLink RX4 9 RX4 "cells" "[J" ∈ tbG := tb_1 31 rfl rfl
theorem ta_long : Cond.arrayClass .long ∈ tbG := tb_1 35 rfl rfl
theorem tq_X11_16 : Cond.classLink RX11 16 RX8 ∈ tbG := tb_1 36 rfl rfl
theorem tn_X8 : Cond.instantiable RX8 4 ∈ tbG := tb_1 37 rfl rfl
theorem tl_X11_18 : Cond.methodLink RX11 18 yX8_init ∈ tbG := tb_1 38 rfl rfl
theorem tm_X8_init : Cond.instanceMethod yX8_init ∈ tbG := tb_1 39 rfl rfl
theorem tc_X8_init : Cond.code yX8_init cX8_init 1 none ∈ tbG := tb_1 40 rfl rfl
theorem tl_X8_1 : Cond.methodLink RX8 1 objectInit ∈ tbG := tb_1 41 rfl rfl
theorem tf_X8_9 : Cond.fieldLink RX8 9 RX8 "parts" "[J" ∈ tbG := tb_1 42 rfl rfl
theorem tf_X8_33 : Cond.fieldLink RX8 33 RX8 "interrupted" "Z" ∈ tbG := tb_1 43 rfl rfl
theorem tf_X8_41 : Cond.fieldLink RX8 41 RX8 "next" "J" ∈ tbG := tb_1 44 rfl rfl
theorem tf_X8_37 : Cond.fieldLink RX8 37 RX8 "taken" "I" ∈ tbG := tb_1 45 rfl rfl
theorem tq_X11_23 : Cond.classLink RX11 23 RX10 ∈ tbG := tb_1 55 rfl rfl
theorem tn_X10 : Cond.instantiable RX10 2 ∈ tbG := tb_1 56 rfl rfl
theorem tl_X11_25 : Cond.methodLink RX11 25 yX10_init ∈ tbG := tb_1 57 rfl rfl
theorem tm_X10_init : Cond.instanceMethod yX10_init ∈ tbG := tb_1 58 rfl rfl
theorem tc_X10_init : Cond.code yX10_init cX10_init 3 none ∈ tbG := tb_1 59 rfl rfl
theorem tl_X10_1 : Cond.methodLink RX10 1 objectInit ∈ tbG := tb_1 60 rfl rfl
theorem tf_X10_7 : Cond.fieldLink RX10 7 RX10 "memory" "LGuardCore$Memory;" ∈ tbG := tb_1 61 rfl rfl
theorem tf_X10_13 : Cond.fieldLink RX10 13 RX10 "state" "LGuardCore$State;" ∈ tbG := tb_1 62 rfl rfl
theorem tq_X11_32 : Cond.classLink RX11 32 RX6 ∈ tbG := tb_1 68 rfl rfl
theorem tn_X6 : Cond.instantiable RX6 9 ∈ tbG := tb_1 69 rfl rfl
theorem tl_X11_34 : Cond.methodLink RX11 34 yX6_init ∈ tbG := tb_1 70 rfl rfl
theorem tm_X6_init : Cond.instanceMethod yX6_init ∈ tbG := tb_1 71 rfl rfl
theorem tc_X6_init : Cond.code yX6_init cX6_init 5 none ∈ tbG := tb_1 72 rfl rfl
theorem tl_X6_1 : Cond.methodLink RX6 1 objectInit ∈ tbG := tb_1 73 rfl rfl
theorem tq_X6_21 : Cond.classLink RX6 21 RX9 ∈ tbG := tb_1 74 rfl rfl
theorem tn_X9 : Cond.instantiable RX9 1 ∈ tbG := tb_1 75 rfl rfl
theorem tl_X6_23 : Cond.methodLink RX6 23 yX9_init ∈ tbG := tb_1 76 rfl rfl
theorem tm_X9_init : Cond.instanceMethod yX9_init ∈ tbG := tb_1 77 rfl rfl
theorem tc_X9_init : Cond.code yX9_init cX9_init 2 none ∈ tbG := tb_1 78 rfl rfl
theorem tl_X9_1 : Cond.methodLink RX9 1 objectInit ∈ tbG := tb_1 79 rfl rfl
theorem tf_X9_7 : Cond.fieldLink RX9 7 RX9 "state" "LGuardCore$State;" ∈ tbG := tb_1 80 rfl rfl
theorem tq_X6_26 : Cond.classLink RX6 26 RX5 ∈ tbG := tb_1 84 rfl rfl
theorem tn_X5 : Cond.instantiable RX5 2 ∈ tbG := tb_1 85 rfl rfl
theorem tl_X6_28 : Cond.methodLink RX6 28 yX5_init ∈ tbG := tb_1 86 rfl rfl
theorem tm_X5_init : Cond.instanceMethod yX5_init ∈ tbG := tb_1 87 rfl rfl
theorem tc_X5_init : Cond.code yX5_init cX5_init 3 none ∈ tbG := tb_1 88 rfl rfl
theorem tl_X5_1 : Cond.methodLink RX5 1 objectInit ∈ tbG := tb_1 89 rfl rfl
theorem tf_X5_7 : Cond.fieldLink RX5 7 RX5 "state" "LGuardCore$State;" ∈ tbG := tb_1 90 rfl rfl
theorem tf_X5_13 : Cond.fieldLink RX5 13 RX5 "sums" "LGuardCore$Sums;" ∈ tbG := tb_1 91 rfl rfl
theorem tq_X6_35 : Cond.classLink RX6 35 RX7 ∈ tbG := tb_1 97 rfl rfl
theorem tn_X7 : Cond.instantiable RX7 2 ∈ tbG := tb_1 98 rfl rfl
theorem tl_X6_37 : Cond.methodLink RX6 37 yX7_init ∈ tbG := tb_1 99 rfl rfl
theorem tm_X7_init : Cond.instanceMethod yX7_init ∈ tbG := tb_1 100 rfl rfl
theorem tc_X7_init : Cond.code yX7_init cX7_init 3 none ∈ tbG := tb_1 101 rfl rfl
theorem tl_X7_1 : Cond.methodLink RX7 1 objectInit ∈ tbG := tb_1 102 rfl rfl
theorem tf_X7_7 : Cond.fieldLink RX7 7 RX7 "state" "LGuardCore$State;" ∈ tbG := tb_1 103 rfl rfl
theorem tf_X7_13 : Cond.fieldLink RX7 13 RX7 "sums" "LGuardCore$Sums;" ∈ tbG := tb_1 104 rfl rfl
theorem tq_X6_42 : Cond.classLink RX6 42 RX0 ∈ tbG := tb_1 110 rfl rfl
theorem tn_X0 : Cond.instantiable RX0 3 ∈ tbG := tb_1 111 rfl rfl
theorem tl_X6_44 : Cond.methodLink RX6 44 yX0_init ∈ tbG := tb_1 112 rfl rfl
theorem tm_X0_init : Cond.instanceMethod yX0_init ∈ tbG := tb_1 113 rfl rfl
theorem tc_X0_init : Cond.code yX0_init cX0_init 4 none ∈ tbG := tb_1 114 rfl rfl
theorem tl_X0_1 : Cond.methodLink RX0 1 objectInit ∈ tbG := tb_1 115 rfl rfl
theorem tf_X0_7 : Cond.fieldLink RX0 7 RX0 "memory" "LGuardCore$Memory;" ∈ tbG := tb_1 116 rfl rfl
theorem tf_X0_13 : Cond.fieldLink RX0 13 RX0 "state" "LGuardCore$State;" ∈ tbG := tb_1 117 rfl rfl
theorem tf_X0_17 : Cond.fieldLink RX0 17 RX0 "walk" "LGuardCore$Walk;" ∈ tbG := tb_1 118 rfl rfl
theorem tq_X6_51 : Cond.classLink RX6 51 RX2 ∈ tbG := tb_1 126 rfl rfl
theorem tn_X2 : Cond.instantiable RX2 1 ∈ tbG := tb_1 127 rfl rfl
theorem tl_X6_53 : Cond.methodLink RX6 53 yX2_init ∈ tbG := tb_1 128 rfl rfl
theorem tm_X2_init : Cond.instanceMethod yX2_init ∈ tbG := tb_1 129 rfl rfl
theorem tc_X2_init : Cond.code yX2_init cX2_init 2 none ∈ tbG := tb_1 130 rfl rfl
theorem tl_X2_1 : Cond.methodLink RX2 1 objectInit ∈ tbG := tb_1 131 rfl rfl
theorem tf_X2_7 : Cond.fieldLink RX2 7 RX2 "state" "LGuardCore$State;" ∈ tbG := tb_1 132 rfl rfl
theorem tq_X6_58 : Cond.classLink RX6 58 RX3 ∈ tbG := tb_1 136 rfl rfl
theorem tn_X3 : Cond.instantiable RX3 1 ∈ tbG := tb_1 137 rfl rfl
theorem tl_X6_60 : Cond.methodLink RX6 60 yX3_init ∈ tbG := tb_1 138 rfl rfl
theorem tm_X3_init : Cond.instanceMethod yX3_init ∈ tbG := tb_1 139 rfl rfl
theorem tc_X3_init : Cond.code yX3_init cX3_init 2 none ∈ tbG := tb_1 140 rfl rfl
theorem tl_X3_3 : Cond.methodLink RX3 3 objectInit ∈ tbG := tb_1 141 rfl rfl
theorem tf_X3_9 : Cond.fieldLink RX3 9 RX3 "state" "LGuardCore$State;" ∈ tbG := tb_1 142 rfl rfl
theorem tf_X6_7 : Cond.fieldLink RX6 7 RX6 "memory" "LGuardCore$Memory;" ∈ tbG := tb_1 146 rfl rfl
theorem tf_X6_13 : Cond.fieldLink RX6 13 RX6 "state" "LGuardCore$State;" ∈ tbG := tb_1 147 rfl rfl
theorem tf_X6_17 : Cond.fieldLink RX6 17 RX6 "walk" "LGuardCore$Walk;" ∈ tbG := tb_1 148 rfl rfl
theorem tf_X6_31 : Cond.fieldLink RX6 31 RX6 "numbers" "LGuardCore$Numbers;" ∈ tbG := tb_1 149 rfl rfl
theorem tf_X6_38 : Cond.fieldLink RX6 38 RX6 "registers" "LGuardCore$Registers;" ∈ tbG := tb_1 150 rfl rfl
theorem tf_X6_47 : Cond.fieldLink RX6 47 RX6 "accesses" "LGuardCore$Accesses;" ∈ tbG := tb_1 151 rfl rfl
theorem tf_X6_54 : Cond.fieldLink RX6 54 RX6 "branches" "LGuardCore$Branches;" ∈ tbG := tb_1 152 rfl rfl
theorem tf_X6_61 : Cond.fieldLink RX6 61 RX6 "control" "LGuardCore$Control;" ∈ tbG := tb_1 153 rfl rfl
theorem tf_X6_100 : Cond.fieldLink RX6 100 RX6 "word" "I" ∈ tbG := tb_1 154 rfl rfl
theorem tf_X11_10 : Cond.fieldLink RX11 10 RX11 "memory" "LGuardCore$Memory;" ∈ tbG := tb_1 174 rfl rfl
theorem tf_X11_19 : Cond.fieldLink RX11 19 RX11 "state" "LGuardCore$State;" ∈ tbG := tb_1 175 rfl rfl
theorem tf_X11_28 : Cond.fieldLink RX11 28 RX11 "walk" "LGuardCore$Walk;" ∈ tbG := tb_1 176 rfl rfl
theorem tf_X11_37 : Cond.fieldLink RX11 37 RX11 "processor" "LGuardCore$Processor;" ∈ tbG := tb_1 177 rfl rfl
theorem tl_L_13 : Cond.methodLink RL 13 yX11_poke ∈ tbG := tb_1 187 rfl rfl
theorem tm_X11_poke : Cond.instanceMethod yX11_poke ∈ tbG := tb_1 188 rfl rfl
theorem te_X11_poke : Cond.selects RX11 yX11_poke yX11_poke ∈ tbG := tb_1 189 rfl rfl
theorem tc_X11_poke : Cond.code yX11_poke cX11_poke 3 (some .boolean) ∈ tbG := tb_1 190 rfl rfl
theorem tl_X11_41 : Cond.methodLink RX11 41 yX11_isWordPlace ∈ tbG := tb_1 191 rfl rfl
theorem tm_X11_isWordPlace : Cond.instanceMethod yX11_isWordPlace ∈ tbG := tb_1 193 rfl rfl
theorem tc_X11_isWordPlace : Cond.code yX11_isWordPlace cX11_isWordPlace 2 (some .boolean) ∈ tbG := tb_1 194 rfl rfl
theorem tl_X11_92 : Cond.methodLink RX11 92 yX4_holds ∈ tbG := tb_1 195 rfl rfl
theorem tm_X4_holds : Cond.instanceMethod yX4_holds ∈ tbG := tb_1 196 rfl rfl
theorem te_X4_holds : Cond.selects RX4 yX4_holds yX4_holds ∈ tbG := tb_1 197 rfl rfl
theorem tc_X4_holds : Cond.code yX4_holds cX4_holds 4 (some .boolean) ∈ tbG := tb_1 198 rfl rfl
theorem tk_X4_13 : Cond.constant RX4 13 (65536) ∈ tbG := tb_1 199 rfl rfl
theorem tl_X11_45 : Cond.methodLink RX11 45 yX4_write ∈ tbG := tb_1 200 rfl rfl
theorem tm_X4_write : Cond.instanceMethod yX4_write ∈ tbG := tb_1 201 rfl rfl
theorem te_X4_write : Cond.selects RX4 yX4_write yX4_write ∈ tbG := tb_1 202 rfl rfl
theorem tc_X4_write : Cond.code yX4_write cX4_write 10 none ∈ tbG := tb_1 203 rfl rfl
theorem tl_X4_14 : Cond.methodLink RX4 14 yX4_holds ∈ tbG := tb_1 204 rfl rfl
theorem tk_X4_18 : Cond.constantLong RX4 18 (7) ∈ tbG := tb_1 205 rfl rfl
theorem tl_X4_20 : Cond.methodLink RX4 20 yX1_ones ∈ tbG := tb_1 206 rfl rfl
theorem ts_X1_ones : Cond.static yX1_ones ∈ tbG := tb_1 207 rfl rfl
theorem tc_X1_ones : Cond.code yX1_ones cX1_ones 1 (some .long) ∈ tbG := tb_1 208 rfl rfl
theorem tk_X1_11 : Cond.constantLong RX1 11 (-1) ∈ tbG := tb_1 209 rfl rfl
theorem tk_X4_26 : Cond.constantLong RX4 26 (-1) ∈ tbG := tb_1 210 rfl rfl
theorem tl_L_18 : Cond.methodLink RL 18 yX11_peek ∈ tbG := tb_1 211 rfl rfl
theorem tm_X11_peek : Cond.instanceMethod yX11_peek ∈ tbG := tb_1 212 rfl rfl
theorem te_X11_peek : Cond.selects RX11 yX11_peek yX11_peek ∈ tbG := tb_1 213 rfl rfl
theorem tc_X11_peek : Cond.code yX11_peek cX11_peek 2 (some .int) ∈ tbG := tb_1 214 rfl rfl
theorem tl_X11_49 : Cond.methodLink RX11 49 yX4_read ∈ tbG := tb_1 215 rfl rfl
theorem tm_X4_read : Cond.instanceMethod yX4_read ∈ tbG := tb_1 216 rfl rfl
theorem te_X4_read : Cond.selects RX4 yX4_read yX4_read ∈ tbG := tb_1 217 rfl rfl
theorem tc_X4_read : Cond.code yX4_read cX4_read 5 (some .long) ∈ tbG := tb_1 218 rfl rfl
theorem tl_L_23 : Cond.methodLink RL 23 yX11_set ∈ tbG := tb_1 219 rfl rfl
theorem tm_X11_set : Cond.instanceMethod yX11_set ∈ tbG := tb_1 220 rfl rfl
theorem te_X11_set : Cond.selects RX11 yX11_set yX11_set ∈ tbG := tb_1 221 rfl rfl
theorem tc_X11_set : Cond.code yX11_set cX11_set 4 (some .boolean) ∈ tbG := tb_1 222 rfl rfl
theorem tk_X11_53 : Cond.constantLong RX11 53 (4294967295) ∈ tbG := tb_1 223 rfl rfl
theorem tl_X11_55 : Cond.methodLink RX11 55 yX8_putPart ∈ tbG := tb_1 224 rfl rfl
theorem tm_X8_putPart : Cond.instanceMethod yX8_putPart ∈ tbG := tb_1 225 rfl rfl
theorem te_X8_putPart : Cond.selects RX8 yX8_putPart yX8_putPart ∈ tbG := tb_1 226 rfl rfl
theorem tc_X8_putPart : Cond.code yX8_putPart cX8_putPart 4 (some .boolean) ∈ tbG := tb_1 227 rfl rfl
theorem tk_X8_13 : Cond.constantLong RX8 13 (15) ∈ tbG := tb_1 228 rfl rfl
theorem tl_L_28 : Cond.methodLink RL 28 yX11_low ∈ tbG := tb_1 229 rfl rfl
theorem tm_X11_low : Cond.instanceMethod yX11_low ∈ tbG := tb_1 230 rfl rfl
theorem te_X11_low : Cond.selects RX11 yX11_low yX11_low ∈ tbG := tb_1 231 rfl rfl
theorem tc_X11_low : Cond.code yX11_low cX11_low 2 (some .int) ∈ tbG := tb_1 232 rfl rfl
theorem tl_X11_59 : Cond.methodLink RX11 59 yX8_part ∈ tbG := tb_1 233 rfl rfl
theorem tm_X8_part : Cond.instanceMethod yX8_part ∈ tbG := tb_1 234 rfl rfl
theorem te_X8_part : Cond.selects RX8 yX8_part yX8_part ∈ tbG := tb_1 235 rfl rfl
theorem tc_X8_part : Cond.code yX8_part cX8_part 2 (some .long) ∈ tbG := tb_1 236 rfl rfl
theorem tl_L_32 : Cond.methodLink RL 32 yX11_high ∈ tbG := tb_1 237 rfl rfl
theorem tm_X11_high : Cond.instanceMethod yX11_high ∈ tbG := tb_1 238 rfl rfl
theorem te_X11_high : Cond.selects RX11 yX11_high yX11_high ∈ tbG := tb_1 239 rfl rfl
theorem tc_X11_high : Cond.code yX11_high cX11_high 2 (some .int) ∈ tbG := tb_2 0 rfl rfl
theorem tl_L_36 : Cond.methodLink RL 36 yX11_interrupt ∈ tbG := tb_2 1 rfl rfl
theorem tm_X11_interrupt : Cond.instanceMethod yX11_interrupt ∈ tbG := tb_2 2 rfl rfl
theorem te_X11_interrupt : Cond.selects RX11 yX11_interrupt yX11_interrupt ∈ tbG := tb_2 3 rfl rfl
theorem tc_X11_interrupt : Cond.code yX11_interrupt cX11_interrupt 2 none ∈ tbG := tb_2 4 rfl rfl
theorem tl_X11_63 : Cond.methodLink RX11 63 yX8_putInterrupt ∈ tbG := tb_2 5 rfl rfl
theorem tm_X8_putInterrupt : Cond.instanceMethod yX8_putInterrupt ∈ tbG := tb_2 6 rfl rfl
theorem te_X8_putInterrupt : Cond.selects RX8 yX8_putInterrupt yX8_putInterrupt ∈ tbG := tb_2 7 rfl rfl
theorem tc_X8_putInterrupt : Cond.code yX8_putInterrupt cX8_putInterrupt 2 none ∈ tbG := tb_2 8 rfl rfl
theorem tl_L_41 : Cond.methodLink RL 41 yX11_step ∈ tbG := tb_2 9 rfl rfl
theorem tm_X11_step : Cond.instanceMethod yX11_step ∈ tbG := tb_2 10 rfl rfl
theorem te_X11_step : Cond.selects RX11 yX11_step yX11_step ∈ tbG := tb_2 11 rfl rfl
theorem tc_X11_step : Cond.code yX11_step cX11_step 4 (some .int) ∈ tbG := tb_2 12 rfl rfl
theorem tl_X11_67 : Cond.methodLink RX11 67 yX8_taken ∈ tbG := tb_2 13 rfl rfl
theorem tm_X8_taken : Cond.instanceMethod yX8_taken ∈ tbG := tb_2 14 rfl rfl
theorem te_X8_taken : Cond.selects RX8 yX8_taken yX8_taken ∈ tbG := tb_2 15 rfl rfl
theorem tc_X8_taken : Cond.code yX8_taken cX8_taken 1 (some .int) ∈ tbG := tb_2 16 rfl rfl
theorem tl_X11_71 : Cond.methodLink RX11 71 yX8_begin ∈ tbG := tb_2 17 rfl rfl
theorem tm_X8_begin : Cond.instanceMethod yX8_begin ∈ tbG := tb_2 18 rfl rfl
theorem te_X8_begin : Cond.selects RX8 yX8_begin yX8_begin ∈ tbG := tb_2 19 rfl rfl
theorem tc_X8_begin : Cond.code yX8_begin cX8_begin 1 none ∈ tbG := tb_2 20 rfl rfl
theorem tk_X8_29 : Cond.constantLong RX8 29 (4) ∈ tbG := tb_2 21 rfl rfl
theorem tl_X11_74 : Cond.methodLink RX11 74 yX6_fetches ∈ tbG := tb_2 22 rfl rfl
theorem tm_X6_fetches : Cond.instanceMethod yX6_fetches ∈ tbG := tb_2 23 rfl rfl
theorem te_X6_fetches : Cond.selects RX6 yX6_fetches yX6_fetches ∈ tbG := tb_2 24 rfl rfl
theorem tc_X6_fetches : Cond.code yX6_fetches cX6_fetches 4 (some .boolean) ∈ tbG := tb_2 25 rfl rfl
theorem tl_X6_65 : Cond.methodLink RX6 65 yX8_isInterruptDue ∈ tbG := tb_2 26 rfl rfl
theorem tm_X8_isInterruptDue : Cond.instanceMethod yX8_isInterruptDue ∈ tbG := tb_2 27 rfl rfl
theorem te_X8_isInterruptDue : Cond.selects RX8 yX8_isInterruptDue yX8_isInterruptDue ∈ tbG := tb_2 28 rfl rfl
theorem tc_X8_isInterruptDue : Cond.code yX8_isInterruptDue cX8_isInterruptDue 1 (some .boolean) ∈ tbG := tb_2 29 rfl rfl
theorem tl_X6_71 : Cond.methodLink RX6 71 yX8_takeInterrupt ∈ tbG := tb_2 30 rfl rfl
theorem tm_X8_takeInterrupt : Cond.instanceMethod yX8_takeInterrupt ∈ tbG := tb_2 31 rfl rfl
theorem te_X8_takeInterrupt : Cond.selects RX8 yX8_takeInterrupt yX8_takeInterrupt ∈ tbG := tb_2 32 rfl rfl
theorem tc_X8_takeInterrupt : Cond.code yX8_takeInterrupt cX8_takeInterrupt 1 none ∈ tbG := tb_2 33 rfl rfl
theorem tl_X8_45 : Cond.methodLink RX8 45 yX8_enter ∈ tbG := tb_2 34 rfl rfl
theorem tm_X8_enter : Cond.instanceMethod yX8_enter ∈ tbG := tb_2 36 rfl rfl
theorem tc_X8_enter : Cond.code yX8_enter cX8_enter 8 none ∈ tbG := tb_2 37 rfl rfl
theorem tk_X8_55 : Cond.constantLong RX8 55 (1024) ∈ tbG := tb_2 38 rfl rfl
theorem tk_X8_57 : Cond.constantLong RX8 57 (512) ∈ tbG := tb_2 39 rfl rfl
theorem tk_X8_59 : Cond.constantLong RX8 59 (-2048) ∈ tbG := tb_2 40 rfl rfl
theorem tl_X6_74 : Cond.methodLink RX6 74 yX8_pc ∈ tbG := tb_2 41 rfl rfl
theorem tm_X8_pc : Cond.instanceMethod yX8_pc ∈ tbG := tb_2 42 rfl rfl
theorem te_X8_pc : Cond.selects RX8 yX8_pc yX8_pc ∈ tbG := tb_2 43 rfl rfl
theorem tc_X8_pc : Cond.code yX8_pc cX8_pc 1 (some .long) ∈ tbG := tb_2 44 rfl rfl
theorem tk_X6_78 : Cond.constantLong RX6 78 (3) ∈ tbG := tb_2 45 rfl rfl
theorem tl_X6_80 : Cond.methodLink RX6 80 yX8_raiseAt ∈ tbG := tb_2 46 rfl rfl
theorem tm_X8_raiseAt : Cond.instanceMethod yX8_raiseAt ∈ tbG := tb_2 47 rfl rfl
theorem te_X8_raiseAt : Cond.selects RX8 yX8_raiseAt yX8_raiseAt ∈ tbG := tb_2 48 rfl rfl
theorem tc_X8_raiseAt : Cond.code yX8_raiseAt cX8_raiseAt 5 none ∈ tbG := tb_2 49 rfl rfl
theorem tl_X8_49 : Cond.methodLink RX8 49 yX8_tell ∈ tbG := tb_2 50 rfl rfl
theorem tm_X8_tell : Cond.instanceMethod yX8_tell ∈ tbG := tb_2 52 rfl rfl
theorem tc_X8_tell : Cond.code yX8_tell cX8_tell 3 none ∈ tbG := tb_2 53 rfl rfl
theorem tk_X8_53 : Cond.constantLong RX8 53 (33554432) ∈ tbG := tb_2 54 rfl rfl
theorem tl_X6_86 : Cond.methodLink RX6 86 yX8_level ∈ tbG := tb_2 55 rfl rfl
theorem tm_X8_level : Cond.instanceMethod yX8_level ∈ tbG := tb_2 56 rfl rfl
theorem te_X8_level : Cond.selects RX8 yX8_level yX8_level ∈ tbG := tb_2 57 rfl rfl
theorem tc_X8_level : Cond.code yX8_level cX8_level 1 (some .int) ∈ tbG := tb_2 58 rfl rfl
theorem tl_X6_90 : Cond.methodLink RX6 90 yX10_find ∈ tbG := tb_2 59 rfl rfl
theorem tm_X10_find : Cond.instanceMethod yX10_find ∈ tbG := tb_2 60 rfl rfl
theorem te_X10_find : Cond.selects RX10 yX10_find yX10_find ∈ tbG := tb_2 61 rfl rfl
theorem tc_X10_find : Cond.code yX10_find cX10_find 8 (some .int) ∈ tbG := tb_2 62 rfl rfl
theorem tl_X10_19 : Cond.methodLink RX10 19 yX8_part ∈ tbG := tb_2 63 rfl rfl
theorem tl_X10_23 : Cond.methodLink RX10 23 yX10_translated ∈ tbG := tb_2 64 rfl rfl
theorem tm_X10_translated : Cond.instanceMethod yX10_translated ∈ tbG := tb_2 66 rfl rfl
theorem tc_X10_translated : Cond.code yX10_translated cX10_translated 16 (some .long) ∈ tbG := tb_2 67 rfl rfl
theorem tk_X10_33 : Cond.constantLong RX10 33 (-7) ∈ tbG := tb_2 68 rfl rfl
theorem tk_X10_35 : Cond.constantLong RX10 35 (281474976706560) ∈ tbG := tb_2 69 rfl rfl
theorem tk_X10_37 : Cond.constantLong RX10 37 (8) ∈ tbG := tb_2 70 rfl rfl
theorem tk_X10_39 : Cond.constantLong RX10 39 (511) ∈ tbG := tb_2 71 rfl rfl
theorem tl_X10_27 : Cond.methodLink RX10 27 yX4_holds ∈ tbG := tb_2 72 rfl rfl
theorem tl_X10_41 : Cond.methodLink RX10 41 yX4_read ∈ tbG := tb_2 73 rfl rfl
theorem tk_X10_45 : Cond.constantLong RX10 45 (3) ∈ tbG := tb_2 74 rfl rfl
theorem tl_X10_47 : Cond.methodLink RX10 47 yX10_fault ∈ tbG := tb_2 75 rfl rfl
theorem ts_X10_fault : Cond.static yX10_fault ∈ tbG := tb_2 76 rfl rfl
theorem tc_X10_fault : Cond.code yX10_fault cX10_fault 4 (some .int) ∈ tbG := tb_2 77 rfl rfl
theorem tl_X10_55 : Cond.methodLink RX10 55 yX10_permits ∈ tbG := tb_2 78 rfl rfl
theorem ts_X10_permits : Cond.static yX10_permits ∈ tbG := tb_2 79 rfl rfl
theorem tc_X10_permits : Cond.code yX10_permits cX10_permits 6 (some .boolean) ∈ tbG := tb_2 80 rfl rfl
theorem tk_X10_51 : Cond.constantLong RX10 51 (-1) ∈ tbG := tb_2 81 rfl rfl
theorem tk_X10_53 : Cond.constantLong RX10 53 (-8) ∈ tbG := tb_2 82 rfl rfl
theorem tl_X6_94 : Cond.methodLink RX6 94 yX4_read ∈ tbG := tb_2 83 rfl rfl
theorem tl_X11_78 : Cond.methodLink RX11 78 yX6_performs ∈ tbG := tb_2 84 rfl rfl
theorem tm_X6_performs : Cond.instanceMethod yX6_performs ∈ tbG := tb_2 85 rfl rfl
theorem te_X6_performs : Cond.selects RX6 yX6_performs yX6_performs ∈ tbG := tb_2 86 rfl rfl
theorem tc_X6_performs : Cond.code yX6_performs cX6_performs 1 (some .boolean) ∈ tbG := tb_2 87 rfl rfl
theorem tl_X6_104 : Cond.methodLink RX6 104 yX0_pair ∈ tbG := tb_2 88 rfl rfl
theorem tm_X0_pair : Cond.instanceMethod yX0_pair ∈ tbG := tb_2 89 rfl rfl
theorem te_X0_pair : Cond.selects RX0 yX0_pair yX0_pair ∈ tbG := tb_2 90 rfl rfl
theorem tc_X0_pair : Cond.code yX0_pair cX0_pair 16 (some .boolean) ∈ tbG := tb_2 91 rfl rfl
theorem tl_X0_21 : Cond.methodLink RX0 21 yX1_field ∈ tbG := tb_2 92 rfl rfl
theorem ts_X1_field : Cond.static yX1_field ∈ tbG := tb_2 93 rfl rfl
theorem tc_X1_field : Cond.code yX1_field cX1_field 3 (some .int) ∈ tbG := tb_2 94 rfl rfl
theorem tl_X0_79 : Cond.methodLink RX0 79 yX1_isOne ∈ tbG := tb_2 95 rfl rfl
theorem ts_X1_isOne : Cond.static yX1_isOne ∈ tbG := tb_2 96 rfl rfl
theorem tc_X1_isOne : Cond.code yX1_isOne cX1_isOne 2 (some .boolean) ∈ tbG := tb_2 97 rfl rfl
theorem tl_X0_31 : Cond.methodLink RX0 31 yX0_stackIsCrooked ∈ tbG := tb_2 98 rfl rfl
theorem tm_X0_stackIsCrooked : Cond.instanceMethod yX0_stackIsCrooked ∈ tbG := tb_2 100 rfl rfl
theorem tc_X0_stackIsCrooked : Cond.code yX0_stackIsCrooked cX0_stackIsCrooked 2 (some .boolean) ∈ tbG := tb_2 101 rfl rfl
theorem tl_X0_44 : Cond.methodLink RX0 44 yX8_registerOrStack ∈ tbG := tb_2 102 rfl rfl
theorem tm_X8_registerOrStack : Cond.instanceMethod yX8_registerOrStack ∈ tbG := tb_2 103 rfl rfl
theorem te_X8_registerOrStack : Cond.selects RX8 yX8_registerOrStack yX8_registerOrStack ∈ tbG := tb_2 104 rfl rfl
theorem tc_X8_registerOrStack : Cond.code yX8_registerOrStack cX8_registerOrStack 2 (some .long) ∈ tbG := tb_2 105 rfl rfl
theorem tl_X8_23 : Cond.methodLink RX8 23 yX8_stack ∈ tbG := tb_2 106 rfl rfl
theorem tm_X8_stack : Cond.instanceMethod yX8_stack ∈ tbG := tb_2 108 rfl rfl
theorem tc_X8_stack : Cond.code yX8_stack cX8_stack 1 (some .int) ∈ tbG := tb_2 109 rfl rfl
theorem tl_X8_15 : Cond.methodLink RX8 15 yX8_part ∈ tbG := tb_2 110 rfl rfl
theorem tk_X0_99 : Cond.constantLong RX0 99 (15) ∈ tbG := tb_2 111 rfl rfl
theorem tl_X0_34 : Cond.methodLink RX0 34 yX8_raise ∈ tbG := tb_2 112 rfl rfl
theorem tm_X8_raise : Cond.instanceMethod yX8_raise ∈ tbG := tb_2 113 rfl rfl
theorem te_X8_raise : Cond.selects RX8 yX8_raise yX8_raise ∈ tbG := tb_2 114 rfl rfl
theorem tc_X8_raise : Cond.code yX8_raise cX8_raise 3 none ∈ tbG := tb_2 115 rfl rfl
theorem tl_X0_83 : Cond.methodLink RX0 83 yX1_signedField ∈ tbG := tb_2 116 rfl rfl
theorem ts_X1_signedField : Cond.static yX1_signedField ∈ tbG := tb_2 117 rfl rfl
theorem tc_X1_signedField : Cond.code yX1_signedField cX1_signedField 3 (some .long) ∈ tbG := tb_2 118 rfl rfl
theorem tl_X0_51 : Cond.methodLink RX0 51 yX0_find ∈ tbG := tb_2 119 rfl rfl
theorem tm_X0_find : Cond.instanceMethod yX0_find ∈ tbG := tb_2 121 rfl rfl
theorem tc_X0_find : Cond.code yX0_find cX0_find 7 (some .int) ∈ tbG := tb_2 122 rfl rfl
theorem tl_X0_103 : Cond.methodLink RX0 103 yX8_level ∈ tbG := tb_2 123 rfl rfl
theorem tl_X0_107 : Cond.methodLink RX0 107 yX10_find ∈ tbG := tb_2 124 rfl rfl
theorem tl_X0_110 : Cond.methodLink RX0 110 yX8_raiseAt ∈ tbG := tb_2 125 rfl rfl
theorem tl_X0_55 : Cond.methodLink RX0 55 yX8_register ∈ tbG := tb_2 126 rfl rfl
theorem tm_X8_register : Cond.instanceMethod yX8_register ∈ tbG := tb_2 127 rfl rfl
theorem te_X8_register : Cond.selects RX8 yX8_register yX8_register ∈ tbG := tb_2 128 rfl rfl
theorem tc_X8_register : Cond.code yX8_register cX8_register 2 (some .long) ∈ tbG := tb_2 129 rfl rfl
theorem tl_X0_58 : Cond.methodLink RX0 58 yX4_write ∈ tbG := tb_2 130 rfl rfl
theorem tl_X0_64 : Cond.methodLink RX0 64 yX8_putRegisterOrStack ∈ tbG := tb_2 131 rfl rfl
theorem tm_X8_putRegisterOrStack : Cond.instanceMethod yX8_putRegisterOrStack ∈ tbG := tb_2 132 rfl rfl
theorem te_X8_putRegisterOrStack : Cond.selects RX8 yX8_putRegisterOrStack yX8_putRegisterOrStack ∈ tbG := tb_2 133 rfl rfl
theorem tc_X8_putRegisterOrStack : Cond.code yX8_putRegisterOrStack cX8_putRegisterOrStack 4 none ∈ tbG := tb_2 134 rfl rfl
theorem tl_X8_19 : Cond.methodLink RX8 19 yX8_putPart ∈ tbG := tb_2 135 rfl rfl
theorem tl_X0_68 : Cond.methodLink RX0 68 yX4_read ∈ tbG := tb_2 136 rfl rfl
theorem tl_X0_72 : Cond.methodLink RX0 72 yX0_extended ∈ tbG := tb_2 137 rfl rfl
theorem ts_X0_extended : Cond.static yX0_extended ∈ tbG := tb_2 138 rfl rfl
theorem tc_X0_extended : Cond.code yX0_extended cX0_extended 5 (some .long) ∈ tbG := tb_2 139 rfl rfl
theorem tl_X0_89 : Cond.methodLink RX0 89 yX1_narrow ∈ tbG := tb_2 140 rfl rfl
theorem ts_X1_narrow : Cond.static yX1_narrow ∈ tbG := tb_2 141 rfl rfl
theorem tc_X1_narrow : Cond.code yX1_narrow cX1_narrow 3 (some .long) ∈ tbG := tb_2 142 rfl rfl
theorem tk_X1_9 : Cond.constantLong RX1 9 (4294967295) ∈ tbG := tb_2 143 rfl rfl
theorem tl_X0_76 : Cond.methodLink RX0 76 yX8_putRegister ∈ tbG := tb_2 144 rfl rfl
theorem tm_X8_putRegister : Cond.instanceMethod yX8_putRegister ∈ tbG := tb_2 145 rfl rfl
theorem te_X8_putRegister : Cond.selects RX8 yX8_putRegister yX8_putRegister ∈ tbG := tb_2 146 rfl rfl
theorem tc_X8_putRegister : Cond.code yX8_putRegister cX8_putRegister 4 none ∈ tbG := tb_2 147 rfl rfl
theorem tl_X6_108 : Cond.methodLink RX6 108 yX7_logic ∈ tbG := tb_2 148 rfl rfl
theorem tm_X7_logic : Cond.instanceMethod yX7_logic ∈ tbG := tb_2 149 rfl rfl
theorem te_X7_logic : Cond.selects RX7 yX7_logic yX7_logic ∈ tbG := tb_2 150 rfl rfl
theorem tc_X7_logic : Cond.code yX7_logic cX7_logic 6 (some .boolean) ∈ tbG := tb_2 151 rfl rfl
theorem tl_X7_17 : Cond.methodLink RX7 17 yX1_field ∈ tbG := tb_2 152 rfl rfl
theorem tl_X7_41 : Cond.methodLink RX7 41 yX1_width ∈ tbG := tb_2 153 rfl rfl
theorem ts_X1_width : Cond.static yX1_width ∈ tbG := tb_2 154 rfl rfl
theorem tc_X1_width : Cond.code yX1_width cX1_width 1 (some .int) ∈ tbG := tb_2 155 rfl rfl
theorem tl_X7_45 : Cond.methodLink RX7 45 yX7_right ∈ tbG := tb_2 156 rfl rfl
theorem tm_X7_right : Cond.instanceMethod yX7_right ∈ tbG := tb_2 158 rfl rfl
theorem tc_X7_right : Cond.code yX7_right cX7_right 2 (some .long) ∈ tbG := tb_2 159 rfl rfl
theorem tl_X7_23 : Cond.methodLink RX7 23 yX8_register ∈ tbG := tb_2 160 rfl rfl
theorem tl_X7_29 : Cond.methodLink RX7 29 yX1_narrow ∈ tbG := tb_2 161 rfl rfl
theorem tl_X7_48 : Cond.methodLink RX7 48 yX1_moved ∈ tbG := tb_2 162 rfl rfl
theorem ts_X1_moved : Cond.static yX1_moved ∈ tbG := tb_2 163 rfl rfl
theorem tc_X1_moved : Cond.code yX1_moved cX1_moved 5 (some .long) ∈ tbG := tb_2 164 rfl rfl
theorem tl_X1_13 : Cond.methodLink RX1 13 yX1_narrow ∈ tbG := tb_2 165 rfl rfl
theorem tl_X1_17 : Cond.methodLink RX1 17 yJ13_rotateRight_b2ac5 ∈ tbG := tb_2 166 rfl rfl
theorem ts_J13_rotateRight_b2ac5 : Cond.static yJ13_rotateRight_b2ac5 ∈ tbG := tb_2 167 rfl rfl
theorem tc_J13_rotateRight_b2ac5 : Cond.code yJ13_rotateRight_b2ac5 cJ13_rotateRight_b2ac5 3 (some .long) ∈ tbG := tb_2 168 rfl rfl
theorem tl_X1_23 : Cond.methodLink RX1 23 yJ6_rotateRight_7cf53 ∈ tbG := tb_2 169 rfl rfl
theorem ts_J6_rotateRight_7cf53 : Cond.static yJ6_rotateRight_7cf53 ∈ tbG := tb_2 170 rfl rfl
theorem tc_J6_rotateRight_7cf53 : Cond.code yJ6_rotateRight_7cf53 cJ6_rotateRight_7cf53 2 (some .int) ∈ tbG := tb_2 171 rfl rfl
theorem tl_X7_37 : Cond.methodLink RX7 37 yX1_isOne ∈ tbG := tb_2 172 rfl rfl
theorem tk_X7_65 : Cond.constantLong RX7 65 (-1) ∈ tbG := tb_2 173 rfl rfl
theorem tl_X7_52 : Cond.methodLink RX7 52 yX7_left ∈ tbG := tb_2 174 rfl rfl
theorem tm_X7_left : Cond.instanceMethod yX7_left ∈ tbG := tb_2 176 rfl rfl
theorem tc_X7_left : Cond.code yX7_left cX7_left 2 (some .long) ∈ tbG := tb_2 177 rfl rfl
theorem tl_X7_67 : Cond.methodLink RX7 67 yX9_logic ∈ tbG := tb_2 178 rfl rfl
theorem tm_X9_logic : Cond.instanceMethod yX9_logic ∈ tbG := tb_2 179 rfl rfl
theorem te_X9_logic : Cond.selects RX9 yX9_logic yX9_logic ∈ tbG := tb_2 180 rfl rfl
theorem tc_X9_logic : Cond.code yX9_logic cX9_logic 9 (some .long) ∈ tbG := tb_2 181 rfl rfl
theorem tl_X9_13 : Cond.methodLink RX9 13 yX1_narrow ∈ tbG := tb_2 182 rfl rfl
theorem tl_X9_27 : Cond.methodLink RX9 27 yX9_signAndZero ∈ tbG := tb_2 183 rfl rfl
theorem ts_X9_signAndZero : Cond.static yX9_signAndZero ∈ tbG := tb_2 184 rfl rfl
theorem tc_X9_signAndZero : Cond.code yX9_signAndZero cX9_signAndZero 3 (some .long) ∈ tbG := tb_2 185 rfl rfl
theorem tl_X9_21 : Cond.methodLink RX9 21 yX1_width ∈ tbG := tb_2 186 rfl rfl
theorem tl_X9_30 : Cond.methodLink RX9 30 yX8_putPart ∈ tbG := tb_2 187 rfl rfl
theorem tl_X7_61 : Cond.methodLink RX7 61 yX7_put ∈ tbG := tb_2 188 rfl rfl
theorem tm_X7_put : Cond.instanceMethod yX7_put ∈ tbG := tb_2 190 rfl rfl
theorem tc_X7_put : Cond.code yX7_put cX7_put 4 (some .boolean) ∈ tbG := tb_2 191 rfl rfl
theorem tl_X7_33 : Cond.methodLink RX7 33 yX8_putRegister ∈ tbG := tb_2 192 rfl rfl
theorem tl_X6_111 : Cond.methodLink RX6 111 yX7_sum ∈ tbG := tb_2 193 rfl rfl
theorem tm_X7_sum : Cond.instanceMethod yX7_sum ∈ tbG := tb_2 194 rfl rfl
theorem te_X7_sum : Cond.selects RX7 yX7_sum yX7_sum ∈ tbG := tb_2 195 rfl rfl
theorem tc_X7_sum : Cond.code yX7_sum cX7_sum 8 (some .boolean) ∈ tbG := tb_2 196 rfl rfl
theorem tl_X7_55 : Cond.methodLink RX7 55 yX9_sum ∈ tbG := tb_2 197 rfl rfl
theorem tm_X9_sum : Cond.instanceMethod yX9_sum ∈ tbG := tb_2 198 rfl rfl
theorem te_X9_sum : Cond.selects RX9 yX9_sum yX9_sum ∈ tbG := tb_2 199 rfl rfl
theorem tc_X9_sum : Cond.code yX9_sum cX9_sum 19 (some .long) ∈ tbG := tb_2 200 rfl rfl
theorem tk_X9_19 : Cond.constantLong RX9 19 (-1) ∈ tbG := tb_2 201 rfl rfl
theorem tl_X6_114 : Cond.methodLink RX6 114 yX5_place ∈ tbG := tb_2 202 rfl rfl
theorem tm_X5_place : Cond.instanceMethod yX5_place ∈ tbG := tb_2 203 rfl rfl
theorem te_X5_place : Cond.selects RX5 yX5_place yX5_place ∈ tbG := tb_2 204 rfl rfl
theorem tc_X5_place : Cond.code yX5_place cX5_place 6 (some .boolean) ∈ tbG := tb_2 205 rfl rfl
theorem tl_X5_77 : Cond.methodLink RX5 77 yX1_signedField ∈ tbG := tb_2 206 rfl rfl
theorem tl_X5_23 : Cond.methodLink RX5 23 yX1_field ∈ tbG := tb_2 207 rfl rfl
theorem tl_X5_81 : Cond.methodLink RX5 81 yX8_pc ∈ tbG := tb_2 208 rfl rfl
theorem tk_X5_85 : Cond.constantLong RX5 85 (-4096) ∈ tbG := tb_2 209 rfl rfl
theorem tl_X5_39 : Cond.methodLink RX5 39 yX8_putRegister ∈ tbG := tb_2 210 rfl rfl
theorem tl_X6_117 : Cond.methodLink RX6 117 yX5_number ∈ tbG := tb_2 211 rfl rfl
theorem tm_X5_number : Cond.instanceMethod yX5_number ∈ tbG := tb_2 212 rfl rfl
theorem te_X5_number : Cond.selects RX5 yX5_number yX5_number ∈ tbG := tb_2 213 rfl rfl
theorem tc_X5_number : Cond.code yX5_number cX5_number 9 (some .boolean) ∈ tbG := tb_2 214 rfl rfl
theorem tl_X5_17 : Cond.methodLink RX5 17 yX1_isOne ∈ tbG := tb_2 215 rfl rfl
theorem tl_X5_27 : Cond.methodLink RX5 27 yX8_registerOrStack ∈ tbG := tb_2 216 rfl rfl
theorem tl_X5_33 : Cond.methodLink RX5 33 yX9_sum ∈ tbG := tb_2 217 rfl rfl
theorem tl_X5_43 : Cond.methodLink RX5 43 yX8_putRegisterOrStack ∈ tbG := tb_2 218 rfl rfl
theorem tl_X6_120 : Cond.methodLink RX6 120 yX1_isOne ∈ tbG := tb_2 219 rfl rfl
theorem tl_X6_126 : Cond.methodLink RX6 126 yX5_move ∈ tbG := tb_2 220 rfl rfl
theorem tm_X5_move : Cond.instanceMethod yX5_move ∈ tbG := tb_2 221 rfl rfl
theorem te_X5_move : Cond.selects RX5 yX5_move yX5_move ∈ tbG := tb_2 222 rfl rfl
theorem tc_X5_move : Cond.code yX5_move cX5_move 8 (some .boolean) ∈ tbG := tb_2 223 rfl rfl
theorem tl_X5_65 : Cond.methodLink RX5 65 yX1_width ∈ tbG := tb_2 224 rfl rfl
theorem tk_X5_69 : Cond.constantLong RX5 69 (-1) ∈ tbG := tb_2 225 rfl rfl
theorem tl_X5_49 : Cond.methodLink RX5 49 yX8_register ∈ tbG := tb_2 226 rfl rfl
theorem tk_X5_71 : Cond.constantLong RX5 71 (65535) ∈ tbG := tb_2 227 rfl rfl
theorem tl_X5_73 : Cond.methodLink RX5 73 yX1_narrow ∈ tbG := tb_2 228 rfl rfl
theorem tl_X6_129 : Cond.methodLink RX6 129 yX5_masks ∈ tbG := tb_2 229 rfl rfl
theorem tm_X5_masks : Cond.instanceMethod yX5_masks ∈ tbG := tb_2 230 rfl rfl
theorem te_X5_masks : Cond.selects RX5 yX5_masks yX5_masks ∈ tbG := tb_2 231 rfl rfl
theorem tc_X5_masks : Cond.code yX5_masks cX5_masks 9 (some .boolean) ∈ tbG := tb_2 232 rfl rfl
theorem tl_X5_46 : Cond.methodLink RX5 46 yX5_mask ∈ tbG := tb_2 233 rfl rfl
theorem ts_X5_mask : Cond.static yX5_mask ∈ tbG := tb_2 234 rfl rfl
theorem tc_X5_mask : Cond.code yX5_mask cX5_mask 10 (some .long) ∈ tbG := tb_2 235 rfl rfl
theorem tl_X5_56 : Cond.methodLink RX5 56 yJ6_highestOneBit_0f7a4 ∈ tbG := tb_2 236 rfl rfl
theorem ts_J6_highestOneBit_0f7a4 : Cond.static yJ6_highestOneBit_0f7a4 ∈ tbG := tb_2 237 rfl rfl
theorem tc_J6_highestOneBit_0f7a4 : Cond.code yJ6_highestOneBit_0f7a4 cJ6_highestOneBit_0f7a4 1 (some .int) ∈ tbG := tb_2 238 rfl rfl
theorem tk_J6_127 : Cond.constant RJ6 127 (-2147483648) ∈ tbG := tb_2 239 rfl rfl
theorem tl_J6_51 : Cond.methodLink RJ6 51 yJ6_numberOfLeadingZeros_0f7a4 ∈ tbG := tb_3 0 rfl rfl
theorem ts_J6_numberOfLeadingZeros_0f7a4 : Cond.static yJ6_numberOfLeadingZeros_0f7a4 ∈ tbG := tb_3 1 rfl rfl
theorem tc_J6_numberOfLeadingZeros_0f7a4 : Cond.code yJ6_numberOfLeadingZeros_0f7a4 cJ6_numberOfLeadingZeros_0f7a4 2 (some .int) ∈ tbG := tb_3 2 rfl rfl
theorem tk_J6_264 : Cond.constant RJ6 264 (65536) ∈ tbG := tb_3 3 rfl rfl
theorem tl_X5_62 : Cond.methodLink RX5 62 yX1_ones ∈ tbG := tb_3 4 rfl rfl
theorem tl_X5_52 : Cond.methodLink RX5 52 yX9_logic ∈ tbG := tb_3 5 rfl rfl
theorem tl_X6_132 : Cond.methodLink RX6 132 yX5_twice ∈ tbG := tb_3 6 rfl rfl
theorem tm_X5_twice : Cond.instanceMethod yX5_twice ∈ tbG := tb_3 7 rfl rfl
theorem te_X5_twice : Cond.selects RX5 yX5_twice yX5_twice ∈ tbG := tb_3 8 rfl rfl
theorem tc_X5_twice : Cond.code yX5_twice cX5_twice 10 (some .boolean) ∈ tbG := tb_3 9 rfl rfl
theorem tl_X6_135 : Cond.methodLink RX6 135 yX5_bits ∈ tbG := tb_3 10 rfl rfl
theorem tm_X5_bits : Cond.instanceMethod yX5_bits ∈ tbG := tb_3 11 rfl rfl
theorem te_X5_bits : Cond.selects RX5 yX5_bits yX5_bits ∈ tbG := tb_3 12 rfl rfl
theorem tc_X5_bits : Cond.code yX5_bits cX5_bits 17 (some .boolean) ∈ tbG := tb_3 13 rfl rfl
theorem tl_X6_138 : Cond.methodLink RX6 138 yX6_performsBranch ∈ tbG := tb_3 14 rfl rfl
theorem tm_X6_performsBranch : Cond.instanceMethod yX6_performsBranch ∈ tbG := tb_3 16 rfl rfl
theorem tc_X6_performsBranch : Cond.code yX6_performsBranch cX6_performsBranch 1 (some .boolean) ∈ tbG := tb_3 17 rfl rfl
theorem tl_X6_156 : Cond.methodLink RX6 156 yX2_branch ∈ tbG := tb_3 18 rfl rfl
theorem tm_X2_branch : Cond.instanceMethod yX2_branch ∈ tbG := tb_3 19 rfl rfl
theorem te_X2_branch : Cond.selects RX2 yX2_branch yX2_branch ∈ tbG := tb_3 20 rfl rfl
theorem tc_X2_branch : Cond.code yX2_branch cX2_branch 2 (some .boolean) ∈ tbG := tb_3 21 rfl rfl
theorem tl_X2_15 : Cond.methodLink RX2 15 yX8_pc ∈ tbG := tb_3 22 rfl rfl
theorem tk_X2_19 : Cond.constantLong RX2 19 (4) ∈ tbG := tb_3 23 rfl rfl
theorem tl_X2_21 : Cond.methodLink RX2 21 yX8_putRegister ∈ tbG := tb_3 24 rfl rfl
theorem tl_X2_25 : Cond.methodLink RX2 25 yX1_signedField ∈ tbG := tb_3 25 rfl rfl
theorem tl_X2_31 : Cond.methodLink RX2 31 yX2_jump ∈ tbG := tb_3 26 rfl rfl
theorem tm_X2_jump : Cond.instanceMethod yX2_jump ∈ tbG := tb_3 28 rfl rfl
theorem tc_X2_jump : Cond.code yX2_jump cX2_jump 4 (some .boolean) ∈ tbG := tb_3 29 rfl rfl
theorem tl_X2_55 : Cond.methodLink RX2 55 yX8_goTo ∈ tbG := tb_3 30 rfl rfl
theorem tm_X8_goTo : Cond.instanceMethod yX8_goTo ∈ tbG := tb_3 31 rfl rfl
theorem te_X8_goTo : Cond.selects RX8 yX8_goTo yX8_goTo ∈ tbG := tb_3 32 rfl rfl
theorem tc_X8_goTo : Cond.code yX8_goTo cX8_goTo 3 none ∈ tbG := tb_3 33 rfl rfl
theorem tl_X6_159 : Cond.methodLink RX6 159 yX2_bit ∈ tbG := tb_3 34 rfl rfl
theorem tm_X2_bit : Cond.instanceMethod yX2_bit ∈ tbG := tb_3 35 rfl rfl
theorem te_X2_bit : Cond.selects RX2 yX2_bit yX2_bit ∈ tbG := tb_3 36 rfl rfl
theorem tc_X2_bit : Cond.code yX2_bit cX2_bit 4 (some .boolean) ∈ tbG := tb_3 37 rfl rfl
theorem tl_X2_39 : Cond.methodLink RX2 39 yX1_field ∈ tbG := tb_3 38 rfl rfl
theorem tl_X2_47 : Cond.methodLink RX2 47 yX8_register ∈ tbG := tb_3 39 rfl rfl
theorem tl_X2_35 : Cond.methodLink RX2 35 yX1_isOne ∈ tbG := tb_3 40 rfl rfl
theorem tl_X6_162 : Cond.methodLink RX6 162 yX2_zero ∈ tbG := tb_3 41 rfl rfl
theorem tm_X2_zero : Cond.instanceMethod yX2_zero ∈ tbG := tb_3 42 rfl rfl
theorem te_X2_zero : Cond.selects RX2 yX2_zero yX2_zero ∈ tbG := tb_3 43 rfl rfl
theorem tc_X2_zero : Cond.code yX2_zero cX2_zero 3 (some .boolean) ∈ tbG := tb_3 44 rfl rfl
theorem tl_X2_51 : Cond.methodLink RX2 51 yX1_narrow ∈ tbG := tb_3 45 rfl rfl
theorem tl_X6_165 : Cond.methodLink RX6 165 yX6_performsControl ∈ tbG := tb_3 46 rfl rfl
theorem tm_X6_performsControl : Cond.instanceMethod yX6_performsControl ∈ tbG := tb_3 48 rfl rfl
theorem tc_X6_performsControl : Cond.code yX6_performsControl cX6_performsControl 1 (some .boolean) ∈ tbG := tb_3 49 rfl rfl
theorem tl_X6_168 : Cond.methodLink RX6 168 yX2_when ∈ tbG := tb_3 50 rfl rfl
theorem tm_X2_when : Cond.instanceMethod yX2_when ∈ tbG := tb_3 51 rfl rfl
theorem te_X2_when : Cond.selects RX2 yX2_when yX2_when ∈ tbG := tb_3 52 rfl rfl
theorem tc_X2_when : Cond.code yX2_when cX2_when 2 (some .boolean) ∈ tbG := tb_3 53 rfl rfl
theorem tl_X2_43 : Cond.methodLink RX2 43 yX8_meets ∈ tbG := tb_3 54 rfl rfl
theorem tm_X8_meets : Cond.instanceMethod yX8_meets ∈ tbG := tb_3 55 rfl rfl
theorem te_X8_meets : Cond.selects RX8 yX8_meets yX8_meets ∈ tbG := tb_3 56 rfl rfl
theorem tc_X8_meets : Cond.code yX8_meets cX8_meets 7 (some .boolean) ∈ tbG := tb_3 57 rfl rfl
theorem tk_X8_27 : Cond.constantLong RX8 27 (8) ∈ tbG := tb_3 58 rfl rfl
theorem tk_X8_31 : Cond.constantLong RX8 31 (2) ∈ tbG := tb_3 59 rfl rfl
theorem tl_X6_171 : Cond.methodLink RX6 171 yX3_call ∈ tbG := tb_3 60 rfl rfl
theorem tm_X3_call : Cond.instanceMethod yX3_call ∈ tbG := tb_3 61 rfl rfl
theorem te_X3_call : Cond.selects RX3 yX3_call yX3_call ∈ tbG := tb_3 62 rfl rfl
theorem tc_X3_call : Cond.code yX3_call cX3_call 5 (some .boolean) ∈ tbG := tb_3 63 rfl rfl
theorem tl_X3_15 : Cond.methodLink RX3 15 yX1_field ∈ tbG := tb_3 64 rfl rfl
theorem tl_X3_21 : Cond.methodLink RX3 21 yX8_raiseBehind ∈ tbG := tb_3 65 rfl rfl
theorem tm_X8_raiseBehind : Cond.instanceMethod yX8_raiseBehind ∈ tbG := tb_3 66 rfl rfl
theorem te_X8_raiseBehind : Cond.selects RX8 yX8_raiseBehind yX8_raiseBehind ∈ tbG := tb_3 67 rfl rfl
theorem tc_X8_raiseBehind : Cond.code yX8_raiseBehind cX8_raiseBehind 3 none ∈ tbG := tb_3 68 rfl rfl
theorem tl_X3_27 : Cond.methodLink RX3 27 yX8_raise ∈ tbG := tb_3 69 rfl rfl
theorem tl_X6_174 : Cond.methodLink RX6 174 yX3_nothing ∈ tbG := tb_3 70 rfl rfl
theorem tm_X3_nothing : Cond.instanceMethod yX3_nothing ∈ tbG := tb_3 71 rfl rfl
theorem te_X3_nothing : Cond.selects RX3 yX3_nothing yX3_nothing ∈ tbG := tb_3 72 rfl rfl
theorem tc_X3_nothing : Cond.code yX3_nothing cX3_nothing 3 (some .boolean) ∈ tbG := tb_3 73 rfl rfl
theorem tk_X3_30 : Cond.constant RX3 30 (872498) ∈ tbG := tb_3 74 rfl rfl
theorem tk_X3_31 : Cond.constant RX3 31 (872499) ∈ tbG := tb_3 75 rfl rfl
theorem tl_X6_177 : Cond.methodLink RX6 177 yX3_system ∈ tbG := tb_3 76 rfl rfl
theorem tm_X3_system : Cond.instanceMethod yX3_system ∈ tbG := tb_3 77 rfl rfl
theorem te_X3_system : Cond.selects RX3 yX3_system yX3_system ∈ tbG := tb_3 78 rfl rfl
theorem tc_X3_system : Cond.code yX3_system cX3_system 6 (some .boolean) ∈ tbG := tb_3 79 rfl rfl
theorem tl_X3_49 : Cond.methodLink RX3 49 yX1_isOne ∈ tbG := tb_3 80 rfl rfl
theorem tl_X3_53 : Cond.methodLink RX3 53 yX3_partOf ∈ tbG := tb_3 81 rfl rfl
theorem ts_X3_partOf : Cond.static yX3_partOf ∈ tbG := tb_3 82 rfl rfl
theorem tc_X3_partOf : Cond.code yX3_partOf cX3_partOf 1 (some .int) ∈ tbG := tb_3 83 rfl rfl
theorem tl_X3_33 : Cond.methodLink RX3 33 yX8_level ∈ tbG := tb_3 84 rfl rfl
theorem tl_X3_57 : Cond.methodLink RX3 57 yX3_systemWhat ∈ tbG := tb_3 85 rfl rfl
theorem ts_X3_systemWhat : Cond.static yX3_systemWhat ∈ tbG := tb_3 86 rfl rfl
theorem tc_X3_systemWhat : Cond.code yX3_systemWhat cX3_systemWhat 3 (some .int) ∈ tbG := tb_3 87 rfl rfl
theorem tk_X3_71 : Cond.constant RX3 71 (3145728) ∈ tbG := tb_3 88 rfl rfl
theorem tl_X3_37 : Cond.methodLink RX3 37 yX8_part ∈ tbG := tb_3 89 rfl rfl
theorem tl_X3_61 : Cond.methodLink RX3 61 yX3_placeOf ∈ tbG := tb_3 90 rfl rfl
theorem ts_X3_placeOf : Cond.static yX3_placeOf ∈ tbG := tb_3 91 rfl rfl
theorem tc_X3_placeOf : Cond.code yX3_placeOf cX3_placeOf 1 (some .int) ∈ tbG := tb_3 92 rfl rfl
theorem tl_X3_64 : Cond.methodLink RX3 64 yX8_putRegister ∈ tbG := tb_3 93 rfl rfl
theorem tl_X3_68 : Cond.methodLink RX3 68 yX8_register ∈ tbG := tb_3 94 rfl rfl
theorem tl_X3_45 : Cond.methodLink RX3 45 yX8_putPart ∈ tbG := tb_3 95 rfl rfl
theorem tl_X6_180 : Cond.methodLink RX6 180 yX3_setting ∈ tbG := tb_3 96 rfl rfl
theorem tm_X3_setting : Cond.instanceMethod yX3_setting ∈ tbG := tb_3 97 rfl rfl
theorem te_X3_setting : Cond.selects RX3 yX3_setting yX3_setting ∈ tbG := tb_3 98 rfl rfl
theorem tc_X3_setting : Cond.code yX3_setting cX3_setting 3 (some .boolean) ∈ tbG := tb_3 99 rfl rfl
theorem tl_X6_183 : Cond.methodLink RX6 183 yX2_toRegister ∈ tbG := tb_3 100 rfl rfl
theorem tm_X2_toRegister : Cond.instanceMethod yX2_toRegister ∈ tbG := tb_3 101 rfl rfl
theorem te_X2_toRegister : Cond.selects RX2 yX2_toRegister yX2_toRegister ∈ tbG := tb_3 102 rfl rfl
theorem tc_X2_toRegister : Cond.code yX2_toRegister cX2_toRegister 3 (some .boolean) ∈ tbG := tb_3 103 rfl rfl
theorem tl_X6_186 : Cond.methodLink RX6 186 yX3_back ∈ tbG := tb_3 104 rfl rfl
theorem tm_X3_back : Cond.instanceMethod yX3_back ∈ tbG := tb_3 105 rfl rfl
theorem te_X3_back : Cond.selects RX3 yX3_back yX3_back ∈ tbG := tb_3 106 rfl rfl
theorem tc_X3_back : Cond.code yX3_back cX3_back 5 (some .boolean) ∈ tbG := tb_3 107 rfl rfl
theorem tk_X3_32 : Cond.constant RX3 32 (-694221856) ∈ tbG := tb_3 108 rfl rfl
theorem tl_X3_41 : Cond.methodLink RX3 41 yX8_goTo ∈ tbG := tb_3 109 rfl rfl
theorem tl_X6_141 : Cond.methodLink RX6 141 yX0_single ∈ tbG := tb_3 110 rfl rfl
theorem tm_X0_single : Cond.instanceMethod yX0_single ∈ tbG := tb_3 111 rfl rfl
theorem te_X0_single : Cond.selects RX0 yX0_single yX0_single ∈ tbG := tb_3 112 rfl rfl
theorem tc_X0_single : Cond.code yX0_single cX0_single 15 (some .boolean) ∈ tbG := tb_3 113 rfl rfl
theorem tl_X0_27 : Cond.methodLink RX0 27 yX0_isSingle ∈ tbG := tb_3 114 rfl rfl
theorem ts_X0_isSingle : Cond.static yX0_isSingle ∈ tbG := tb_3 115 rfl rfl
theorem tc_X0_isSingle : Cond.code yX0_isSingle cX0_isSingle 2 (some .boolean) ∈ tbG := tb_3 116 rfl rfl
theorem tl_X0_40 : Cond.methodLink RX0 40 yX0_change ∈ tbG := tb_3 117 rfl rfl
theorem ts_X0_change : Cond.static yX0_change ∈ tbG := tb_3 118 rfl rfl
theorem tc_X0_change : Cond.code yX0_change cX0_change 1 (some .int) ∈ tbG := tb_3 119 rfl rfl
theorem tl_X0_48 : Cond.methodLink RX0 48 yX0_offset ∈ tbG := tb_3 120 rfl rfl
theorem tm_X0_offset : Cond.instanceMethod yX0_offset ∈ tbG := tb_3 122 rfl rfl
theorem tc_X0_offset : Cond.code yX0_offset cX0_offset 5 (some .long) ∈ tbG := tb_3 123 rfl rfl
theorem tk_X0_87 : Cond.constantLong RX0 87 (4294967295) ∈ tbG := tb_3 124 rfl rfl
theorem tl_X6_144 : Cond.methodLink RX6 144 yX0_near ∈ tbG := tb_3 125 rfl rfl
theorem tm_X0_near : Cond.instanceMethod yX0_near ∈ tbG := tb_3 126 rfl rfl
theorem te_X0_near : Cond.selects RX0 yX0_near yX0_near ∈ tbG := tb_3 127 rfl rfl
theorem tc_X0_near : Cond.code yX0_near cX0_near 4 (some .boolean) ∈ tbG := tb_3 128 rfl rfl
theorem tl_X0_93 : Cond.methodLink RX0 93 yX8_pc ∈ tbG := tb_3 129 rfl rfl
theorem tk_X0_97 : Cond.constantLong RX0 97 (4) ∈ tbG := tb_3 130 rfl rfl
theorem tl_X6_147 : Cond.methodLink RX6 147 yX6_performsRegisters ∈ tbG := tb_3 131 rfl rfl
theorem tm_X6_performsRegisters : Cond.instanceMethod yX6_performsRegisters ∈ tbG := tb_3 133 rfl rfl
theorem tc_X6_performsRegisters : Cond.code yX6_performsRegisters cX6_performsRegisters 1 (some .boolean) ∈ tbG := tb_3 134 rfl rfl
theorem tl_X6_189 : Cond.methodLink RX6 189 yX7_compare ∈ tbG := tb_3 135 rfl rfl
theorem tm_X7_compare : Cond.instanceMethod yX7_compare ∈ tbG := tb_3 136 rfl rfl
theorem te_X7_compare : Cond.selects RX7 yX7_compare yX7_compare ∈ tbG := tb_3 137 rfl rfl
theorem tc_X7_compare : Cond.code yX7_compare cX7_compare 4 (some .boolean) ∈ tbG := tb_3 138 rfl rfl
theorem tl_X7_71 : Cond.methodLink RX7 71 yX8_meets ∈ tbG := tb_3 139 rfl rfl
theorem tl_X7_75 : Cond.methodLink RX7 75 yX8_putPart ∈ tbG := tb_3 140 rfl rfl
theorem tl_X6_192 : Cond.methodLink RX6 192 yX7_choose ∈ tbG := tb_3 141 rfl rfl
theorem tm_X7_choose : Cond.instanceMethod yX7_choose ∈ tbG := tb_3 142 rfl rfl
theorem te_X7_choose : Cond.selects RX7 yX7_choose yX7_choose ∈ tbG := tb_3 143 rfl rfl
theorem tc_X7_choose : Cond.code yX7_choose cX7_choose 4 (some .boolean) ∈ tbG := tb_3 144 rfl rfl
theorem tl_X6_195 : Cond.methodLink RX6 195 yX7_one ∈ tbG := tb_3 145 rfl rfl
theorem tm_X7_one : Cond.instanceMethod yX7_one ∈ tbG := tb_3 146 rfl rfl
theorem te_X7_one : Cond.selects RX7 yX7_one yX7_one ∈ tbG := tb_3 147 rfl rfl
theorem tc_X7_one : Cond.code yX7_one cX7_one 6 (some .boolean) ∈ tbG := tb_3 148 rfl rfl
theorem tl_X7_97 : Cond.methodLink RX7 97 yJ13_reverse_067f4 ∈ tbG := tb_3 149 rfl rfl
theorem ts_J13_reverse_067f4 : Cond.static yJ13_reverse_067f4 ∈ tbG := tb_3 150 rfl rfl
theorem tc_J13_reverse_067f4 : Cond.code yJ13_reverse_067f4 cJ13_reverse_067f4 2 (some .long) ∈ tbG := tb_3 151 rfl rfl
theorem tk_J13_314 : Cond.constantLong RJ13 314 (6148914691236517205) ∈ tbG := tb_3 152 rfl rfl
theorem tk_J13_316 : Cond.constantLong RJ13 316 (3689348814741910323) ∈ tbG := tb_3 153 rfl rfl
theorem tk_J13_318 : Cond.constantLong RJ13 318 (1085102592571150095) ∈ tbG := tb_3 154 rfl rfl
theorem tl_J13_320 : Cond.methodLink RJ13 320 yJ13_reverseBytes_067f4 ∈ tbG := tb_3 155 rfl rfl
theorem ts_J13_reverseBytes_067f4 : Cond.static yJ13_reverseBytes_067f4 ∈ tbG := tb_3 156 rfl rfl
theorem tc_J13_reverseBytes_067f4 : Cond.code yJ13_reverseBytes_067f4 cJ13_reverseBytes_067f4 2 (some .long) ∈ tbG := tb_3 157 rfl rfl
theorem tk_J13_327 : Cond.constantLong RJ13 327 (71777214294589695) ∈ tbG := tb_3 158 rfl rfl
theorem tk_J13_329 : Cond.constantLong RJ13 329 (4294901760) ∈ tbG := tb_3 159 rfl rfl
theorem tl_X7_101 : Cond.methodLink RX7 101 yX7_bytesOfPairs ∈ tbG := tb_3 160 rfl rfl
theorem ts_X7_bytesOfPairs : Cond.static yX7_bytesOfPairs ∈ tbG := tb_3 161 rfl rfl
theorem tc_X7_bytesOfPairs : Cond.code yX7_bytesOfPairs cX7_bytesOfPairs 2 (some .long) ∈ tbG := tb_3 162 rfl rfl
theorem tk_X7_116 : Cond.constantLong RX7 116 (71777214294589695) ∈ tbG := tb_3 163 rfl rfl
theorem tl_X7_104 : Cond.methodLink RX7 104 yX7_bytesOfFours ∈ tbG := tb_3 164 rfl rfl
theorem ts_X7_bytesOfFours : Cond.static yX7_bytesOfFours ∈ tbG := tb_3 165 rfl rfl
theorem tc_X7_bytesOfFours : Cond.code yX7_bytesOfFours cX7_bytesOfFours 4 (some .long) ∈ tbG := tb_3 166 rfl rfl
theorem tk_X7_118 : Cond.constantLong RX7 118 (281470681808895) ∈ tbG := tb_3 167 rfl rfl
theorem tl_X7_107 : Cond.methodLink RX7 107 yJ13_reverseBytes_067f4 ∈ tbG := tb_3 168 rfl rfl
theorem tl_X7_110 : Cond.methodLink RX7 110 yX7_zerosAbove ∈ tbG := tb_3 169 rfl rfl
theorem ts_X7_zerosAbove : Cond.static yX7_zerosAbove ∈ tbG := tb_3 170 rfl rfl
theorem tc_X7_zerosAbove : Cond.code yX7_zerosAbove cX7_zerosAbove 3 (some .long) ∈ tbG := tb_3 171 rfl rfl
theorem tl_X7_120 : Cond.methodLink RX7 120 yJ13_numberOfLeadingZeros_95d88 ∈ tbG := tb_3 172 rfl rfl
theorem ts_J13_numberOfLeadingZeros_95d88 : Cond.static yJ13_numberOfLeadingZeros_95d88 ∈ tbG := tb_3 173 rfl rfl
theorem tc_J13_numberOfLeadingZeros_95d88 : Cond.code yJ13_numberOfLeadingZeros_95d88 cJ13_numberOfLeadingZeros_95d88 3 (some .int) ∈ tbG := tb_3 174 rfl rfl
theorem tl_J13_308 : Cond.methodLink RJ13 308 yJ6_numberOfLeadingZeros_0f7a4 ∈ tbG := tb_3 175 rfl rfl
theorem tl_X7_113 : Cond.methodLink RX7 113 yX7_likeTheHighest ∈ tbG := tb_3 176 rfl rfl
theorem ts_X7_likeTheHighest : Cond.static yX7_likeTheHighest ∈ tbG := tb_3 177 rfl rfl
theorem tc_X7_likeTheHighest : Cond.code yX7_likeTheHighest cX7_likeTheHighest 5 (some .long) ∈ tbG := tb_3 178 rfl rfl
theorem tl_X6_198 : Cond.methodLink RX6 198 yX7_two ∈ tbG := tb_3 179 rfl rfl
theorem tm_X7_two : Cond.instanceMethod yX7_two ∈ tbG := tb_3 180 rfl rfl
theorem te_X7_two : Cond.selects RX7 yX7_two yX7_two ∈ tbG := tb_3 181 rfl rfl
theorem tc_X7_two : Cond.code yX7_two cX7_two 5 (some .boolean) ∈ tbG := tb_3 182 rfl rfl
theorem tl_X7_84 : Cond.methodLink RX7 84 yX7_quotient ∈ tbG := tb_3 183 rfl rfl
theorem ts_X7_quotient : Cond.static yX7_quotient ∈ tbG := tb_3 184 rfl rfl
theorem tc_X7_quotient : Cond.code yX7_quotient cX7_quotient 8 (some .long) ∈ tbG := tb_3 185 rfl rfl
theorem tl_X7_91 : Cond.methodLink RX7 91 yJ13_compareUnsigned_74951 ∈ tbG := tb_3 186 rfl rfl
theorem ts_J13_compareUnsigned_74951 : Cond.static yJ13_compareUnsigned_74951 ∈ tbG := tb_3 187 rfl rfl
theorem tc_J13_compareUnsigned_74951 : Cond.code yJ13_compareUnsigned_74951 cJ13_compareUnsigned_74951 4 (some .int) ∈ tbG := tb_3 188 rfl rfl
theorem tk_J13_168 : Cond.constantLong RJ13 168 (-9223372036854775808) ∈ tbG := tb_3 189 rfl rfl
theorem tl_J13_302 : Cond.methodLink RJ13 302 yJ13_compare_74951 ∈ tbG := tb_3 190 rfl rfl
theorem ts_J13_compare_74951 : Cond.static yJ13_compare_74951 ∈ tbG := tb_3 191 rfl rfl
theorem tc_J13_compare_74951 : Cond.code yJ13_compare_74951 cJ13_compare_74951 4 (some .int) ∈ tbG := tb_3 192 rfl rfl
theorem tl_X7_87 : Cond.methodLink RX7 87 yX7_signedQuotient ∈ tbG := tb_3 193 rfl rfl
theorem ts_X7_signedQuotient : Cond.static yX7_signedQuotient ∈ tbG := tb_3 194 rfl rfl
theorem tc_X7_signedQuotient : Cond.code yX7_signedQuotient cX7_signedQuotient 9 (some .long) ∈ tbG := tb_3 195 rfl rfl
theorem tl_X6_150 : Cond.methodLink RX6 150 yX7_times ∈ tbG := tb_3 196 rfl rfl
theorem tm_X7_times : Cond.instanceMethod yX7_times ∈ tbG := tb_3 197 rfl rfl
theorem te_X7_times : Cond.selects RX7 yX7_times yX7_times ∈ tbG := tb_3 198 rfl rfl
theorem tc_X7_times : Cond.code yX7_times cX7_times 6 (some .boolean) ∈ tbG := tb_3 199 rfl rfl
theorem tl_X6_153 : Cond.methodLink RX6 153 yX7_upperTimes ∈ tbG := tb_3 200 rfl rfl
theorem tm_X7_upperTimes : Cond.instanceMethod yX7_upperTimes ∈ tbG := tb_3 201 rfl rfl
theorem te_X7_upperTimes : Cond.selects RX7 yX7_upperTimes yX7_upperTimes ∈ tbG := tb_3 202 rfl rfl
theorem tc_X7_upperTimes : Cond.code yX7_upperTimes cX7_upperTimes 9 (some .boolean) ∈ tbG := tb_3 203 rfl rfl
theorem tl_X7_78 : Cond.methodLink RX7 78 yJ9_multiplyHigh_f86c9 ∈ tbG := tb_3 204 rfl rfl
theorem ts_J9_multiplyHigh_f86c9 : Cond.static yJ9_multiplyHigh_f86c9 ∈ tbG := tb_3 205 rfl rfl
theorem tc_J9_multiplyHigh_f86c9 : Cond.code yJ9_multiplyHigh_f86c9 cJ9_multiplyHigh_f86c9 20 (some .long) ∈ tbG := tb_3 206 rfl rfl
theorem tk_J9_138 : Cond.constantLong RJ9 138 (4294967295) ∈ tbG := tb_3 207 rfl rfl
theorem tl_X11_81 : Cond.methodLink RX11 81 yX8_raise ∈ tbG := tb_3 208 rfl rfl
theorem tl_X11_85 : Cond.methodLink RX11 85 yX8_finish ∈ tbG := tb_3 209 rfl rfl
theorem tm_X8_finish : Cond.instanceMethod yX8_finish ∈ tbG := tb_3 210 rfl rfl
theorem te_X8_finish : Cond.selects RX8 yX8_finish yX8_finish ∈ tbG := tb_3 211 rfl rfl
theorem tc_X8_finish : Cond.code yX8_finish cX8_finish 1 none ∈ tbG := tb_3 212 rfl rfl
theorem tl_L_45 : Cond.methodLink RL 45 yX11_look ∈ tbG := tb_3 213 rfl rfl
theorem tm_X11_look : Cond.instanceMethod yX11_look ∈ tbG := tb_3 214 rfl rfl
theorem te_X11_look : Cond.selects RX11 yX11_look yX11_look ∈ tbG := tb_3 215 rfl rfl
theorem tc_X11_look : Cond.code yX11_look cX11_look 5 (some .int) ∈ tbG := tb_3 216 rfl rfl
theorem tl_X11_88 : Cond.methodLink RX11 88 yX10_find ∈ tbG := tb_3 217 rfl rfl
theorem tq_L_10 : Cond.classLink RL 10 RX12 ∈ tbG := tb_3 218 rfl rfl
theorem tn_X12 : Cond.instantiable RX12 16 ∈ tbG := tb_3 219 rfl rfl
theorem tl_L_12 : Cond.methodLink RL 12 yX12_init ∈ tbG := tb_3 220 rfl rfl
theorem tm_X12_init : Cond.instanceMethod yX12_init ∈ tbG := tb_3 221 rfl rfl
theorem tc_X12_init : Cond.code yX12_init cX12_init 1 none ∈ tbG := tb_3 222 rfl rfl
theorem tl_X12_1 : Cond.methodLink RX12 1 objectInit ∈ tbG := tb_3 223 rfl rfl
theorem tk_X12_13 : Cond.constant RX12 13 (65536) ∈ tbG := tb_3 224 rfl rfl
theorem tf_X12_7 : Cond.fieldLink RX12 7 RX12 "thrownCode" "I" ∈ tbG := tb_3 225 rfl rfl
theorem tf_X12_14 : Cond.fieldLink RX12 14 RX12 "mem" "[I" ∈ tbG := tb_3 226 rfl rfl
theorem tf_X12_18 : Cond.fieldLink RX12 18 RX12 "x" "[J" ∈ tbG := tb_3 227 rfl rfl
theorem tf_X12_22 : Cond.fieldLink RX12 22 RX12 "state" "[J" ∈ tbG := tb_3 228 rfl rfl
theorem tf_X12_25 : Cond.fieldLink RX12 25 RX12 "flags" "I" ∈ tbG := tb_3 229 rfl rfl
theorem tf_X12_28 : Cond.fieldLink RX12 28 RX12 "level" "I" ∈ tbG := tb_3 230 rfl rfl
theorem tf_X12_31 : Cond.fieldLink RX12 31 RX12 "select" "I" ∈ tbG := tb_3 231 rfl rfl
theorem tf_X12_34 : Cond.fieldLink RX12 34 RX12 "masked" "I" ∈ tbG := tb_3 232 rfl rfl
theorem tf_X12_37 : Cond.fieldLink RX12 37 RX12 "calls" "Z" ∈ tbG := tb_3 233 rfl rfl
theorem tf_X12_41 : Cond.fieldLink RX12 41 RX12 "faultWhat" "I" ∈ tbG := tb_3 234 rfl rfl
theorem tf_X12_44 : Cond.fieldLink RX12 44 RX12 "place" "J" ∈ tbG := tb_3 235 rfl rfl
theorem tf_X12_48 : Cond.fieldLink RX12 48 RX12 "taken" "I" ∈ tbG := tb_3 236 rfl rfl
theorem tf_X12_51 : Cond.fieldLink RX12 51 RX12 "carry" "I" ∈ tbG := tb_3 237 rfl rfl
theorem tf_X12_54 : Cond.fieldLink RX12 54 RX12 "over" "I" ∈ tbG := tb_3 238 rfl rfl
theorem tf_X12_57 : Cond.fieldLink RX12 57 RX12 "ins" "I" ∈ tbG := tb_3 239 rfl rfl
theorem tf_X12_60 : Cond.fieldLink RX12 60 RX12 "asked" "Z" ∈ tbG := tb_4 0 rfl rfl
theorem ta_int : Cond.arrayClass .int ∈ tbG := tb_4 34 rfl rfl
theorem tl_L_17 : Cond.methodLink RL 17 yX12_poke ∈ tbG := tb_4 35 rfl rfl
theorem tm_X12_poke : Cond.instanceMethod yX12_poke ∈ tbG := tb_4 36 rfl rfl
theorem te_X12_poke : Cond.selects RX12 yX12_poke yX12_poke ∈ tbG := tb_4 37 rfl rfl
theorem tc_X12_poke : Cond.code yX12_poke cX12_poke 4 (some .boolean) ∈ tbG := tb_4 38 rfl rfl
theorem tk_X12_63 : Cond.constant RX12 63 (65532) ∈ tbG := tb_4 39 rfl rfl
theorem tl_L_22 : Cond.methodLink RL 22 yX12_peek ∈ tbG := tb_4 40 rfl rfl
theorem tm_X12_peek : Cond.instanceMethod yX12_peek ∈ tbG := tb_4 41 rfl rfl
theorem te_X12_peek : Cond.selects RX12 yX12_peek yX12_peek ∈ tbG := tb_4 42 rfl rfl
theorem tc_X12_peek : Cond.code yX12_peek cX12_peek 2 (some .int) ∈ tbG := tb_4 43 rfl rfl
theorem tl_X12_64 : Cond.methodLink RX12 64 yX12_bytes ∈ tbG := tb_4 44 rfl rfl
theorem tm_X12_bytes : Cond.instanceMethod yX12_bytes ∈ tbG := tb_4 46 rfl rfl
theorem tc_X12_bytes : Cond.code yX12_bytes cX12_bytes 6 (some .long) ∈ tbG := tb_4 47 rfl rfl
theorem tl_L_27 : Cond.methodLink RL 27 yX12_set ∈ tbG := tb_4 48 rfl rfl
theorem tm_X12_set : Cond.instanceMethod yX12_set ∈ tbG := tb_4 49 rfl rfl
theorem te_X12_set : Cond.selects RX12 yX12_set yX12_set ∈ tbG := tb_4 50 rfl rfl
theorem tc_X12_set : Cond.code yX12_set cX12_set 6 (some .boolean) ∈ tbG := tb_4 51 rfl rfl
theorem tk_X12_116 : Cond.constantLong RX12 116 (4294967295) ∈ tbG := tb_4 52 rfl rfl
theorem tl_L_31 : Cond.methodLink RL 31 yX12_low ∈ tbG := tb_4 53 rfl rfl
theorem tm_X12_low : Cond.instanceMethod yX12_low ∈ tbG := tb_4 54 rfl rfl
theorem te_X12_low : Cond.selects RX12 yX12_low yX12_low ∈ tbG := tb_4 55 rfl rfl
theorem tc_X12_low : Cond.code yX12_low cX12_low 2 (some .int) ∈ tbG := tb_4 56 rfl rfl
theorem tl_X12_307 : Cond.methodLink RX12 307 yX12_part ∈ tbG := tb_4 57 rfl rfl
theorem tm_X12_part : Cond.instanceMethod yX12_part ∈ tbG := tb_4 59 rfl rfl
theorem tc_X12_part : Cond.code yX12_part cX12_part 2 (some .long) ∈ tbG := tb_4 60 rfl rfl
theorem tl_L_35 : Cond.methodLink RL 35 yX12_high ∈ tbG := tb_4 61 rfl rfl
theorem tm_X12_high : Cond.instanceMethod yX12_high ∈ tbG := tb_4 62 rfl rfl
theorem te_X12_high : Cond.selects RX12 yX12_high yX12_high ∈ tbG := tb_4 63 rfl rfl
theorem tc_X12_high : Cond.code yX12_high cX12_high 2 (some .int) ∈ tbG := tb_4 64 rfl rfl
theorem tl_L_40 : Cond.methodLink RL 40 yX12_interrupt ∈ tbG := tb_4 65 rfl rfl
theorem tm_X12_interrupt : Cond.instanceMethod yX12_interrupt ∈ tbG := tb_4 66 rfl rfl
theorem te_X12_interrupt : Cond.selects RX12 yX12_interrupt yX12_interrupt ∈ tbG := tb_4 67 rfl rfl
theorem tc_X12_interrupt : Cond.code yX12_interrupt cX12_interrupt 2 none ∈ tbG := tb_4 68 rfl rfl
theorem tl_L_44 : Cond.methodLink RL 44 yX12_step ∈ tbG := tb_4 69 rfl rfl
theorem tm_X12_step : Cond.instanceMethod yX12_step ∈ tbG := tb_4 70 rfl rfl
theorem te_X12_step : Cond.selects RX12 yX12_step yX12_step ∈ tbG := tb_4 71 rfl rfl
theorem tc_X12_step : Cond.code yX12_step cX12_step 3 (some .int) ∈ tbG := tb_4 72 rfl rfl
theorem tl_X12_310 : Cond.methodLink RX12 310 yX12_oneStep ∈ tbG := tb_4 73 rfl rfl
theorem tm_X12_oneStep : Cond.instanceMethod yX12_oneStep ∈ tbG := tb_4 75 rfl rfl
theorem tc_X12_oneStep : Cond.code yX12_oneStep cX12_oneStep 1 none ∈ tbG := tb_4 76 rfl rfl
theorem tl_X12_102 : Cond.methodLink RX12 102 yX12_enters ∈ tbG := tb_4 77 rfl rfl
theorem tm_X12_enters : Cond.instanceMethod yX12_enters ∈ tbG := tb_4 79 rfl rfl
theorem tc_X12_enters : Cond.code yX12_enters cX12_enters 8 none ∈ tbG := tb_4 80 rfl rfl
theorem tk_X12_90 : Cond.constantLong RX12 90 (4) ∈ tbG := tb_4 81 rfl rfl
theorem tk_X12_92 : Cond.constantLong RX12 92 (-2048) ∈ tbG := tb_4 82 rfl rfl
theorem tk_X12_94 : Cond.constantLong RX12 94 (1024) ∈ tbG := tb_4 83 rfl rfl
theorem tk_X12_96 : Cond.constantLong RX12 96 (512) ∈ tbG := tb_4 84 rfl rfl
theorem tk_X12_98 : Cond.constantLong RX12 98 (128) ∈ tbG := tb_4 85 rfl rfl
theorem tk_X12_88 : Cond.constantLong RX12 88 (3) ∈ tbG := tb_4 86 rfl rfl
theorem tl_X12_106 : Cond.methodLink RX12 106 yX12_exception ∈ tbG := tb_4 87 rfl rfl
theorem tm_X12_exception : Cond.instanceMethod yX12_exception ∈ tbG := tb_4 89 rfl rfl
theorem tc_X12_exception : Cond.code yX12_exception cX12_exception 6 none ∈ tbG := tb_4 90 rfl rfl
theorem tk_X12_100 : Cond.constantLong RX12 100 (33554432) ∈ tbG := tb_4 91 rfl rfl
theorem tl_X12_200 : Cond.methodLink RX12 200 yX12_leads ∈ tbG := tb_4 92 rfl rfl
theorem tm_X12_leads : Cond.instanceMethod yX12_leads ∈ tbG := tb_4 94 rfl rfl
theorem tc_X12_leads : Cond.code yX12_leads cX12_leads 14 (some .boolean) ∈ tbG := tb_4 95 rfl rfl
theorem tl_X12_68 : Cond.methodLink RX12 68 yX12_bit ∈ tbG := tb_4 96 rfl rfl
theorem ts_X12_bit : Cond.static yX12_bit ∈ tbG := tb_4 97 rfl rfl
theorem tc_X12_bit : Cond.code yX12_bit cX12_bit 3 (some .boolean) ∈ tbG := tb_4 98 rfl rfl
theorem tl_X12_72 : Cond.methodLink RX12 72 yX12_bits ∈ tbG := tb_4 99 rfl rfl
theorem ts_X12_bits : Cond.static yX12_bits ∈ tbG := tb_4 100 rfl rfl
theorem tc_X12_bits : Cond.code yX12_bits cX12_bits 7 (some .long) ∈ tbG := tb_4 101 rfl rfl
theorem tl_X12_76 : Cond.methodLink RX12 76 yX12_wrong ∈ tbG := tb_4 102 rfl rfl
theorem tm_X12_wrong : Cond.instanceMethod yX12_wrong ∈ tbG := tb_4 104 rfl rfl
theorem tc_X12_wrong : Cond.code yX12_wrong cX12_wrong 2 (some .boolean) ∈ tbG := tb_4 105 rfl rfl
theorem tk_X12_80 : Cond.constantLong RX12 80 (8) ∈ tbG := tb_4 106 rfl rfl
theorem tk_X12_82 : Cond.constantLong RX12 82 (65529) ∈ tbG := tb_4 107 rfl rfl
theorem tl_X12_84 : Cond.methodLink RX12 84 yX12_isBelow ∈ tbG := tb_4 108 rfl rfl
theorem ts_X12_isBelow : Cond.static yX12_isBelow ∈ tbG := tb_4 109 rfl rfl
theorem tc_X12_isBelow : Cond.code yX12_isBelow cX12_isBelow 4 (some .boolean) ∈ tbG := tb_4 110 rfl rfl
theorem tl_X12_204 : Cond.methodLink RX12 204 yX12_inside ∈ tbG := tb_4 111 rfl rfl
theorem tm_X12_inside : Cond.instanceMethod yX12_inside ∈ tbG := tb_4 113 rfl rfl
theorem tc_X12_inside : Cond.code yX12_inside cX12_inside 2 (some .boolean) ∈ tbG := tb_4 114 rfl rfl
theorem tl_X12_304 : Cond.methodLink RX12 304 yX12_does ∈ tbG := tb_4 115 rfl rfl
theorem tm_X12_does : Cond.instanceMethod yX12_does ∈ tbG := tb_4 117 rfl rfl
theorem tc_X12_does : Cond.code yX12_does cX12_does 1 none ∈ tbG := tb_4 118 rfl rfl
theorem tl_X12_121 : Cond.methodLink RX12 121 yX12_f ∈ tbG := tb_4 119 rfl rfl
theorem tm_X12_f : Cond.instanceMethod yX12_f ∈ tbG := tb_4 121 rfl rfl
theorem tc_X12_f : Cond.code yX12_f cX12_f 5 (some .int) ∈ tbG := tb_4 122 rfl rfl
theorem tl_X12_230 : Cond.methodLink RX12 230 yX12_number ∈ tbG := tb_4 123 rfl rfl
theorem tm_X12_number : Cond.instanceMethod yX12_number ∈ tbG := tb_4 125 rfl rfl
theorem tc_X12_number : Cond.code yX12_number cX12_number 8 none ∈ tbG := tb_4 126 rfl rfl
theorem tl_X12_129 : Cond.methodLink RX12 129 yX12_width ∈ tbG := tb_4 127 rfl rfl
theorem tm_X12_width : Cond.instanceMethod yX12_width ∈ tbG := tb_4 129 rfl rfl
theorem tc_X12_width : Cond.code yX12_width cX12_width 1 (some .int) ∈ tbG := tb_4 130 rfl rfl
theorem tl_X12_118 : Cond.methodLink RX12 118 yX12_on ∈ tbG := tb_4 131 rfl rfl
theorem tm_X12_on : Cond.instanceMethod yX12_on ∈ tbG := tb_4 133 rfl rfl
theorem tc_X12_on : Cond.code yX12_on cX12_on 2 (some .boolean) ∈ tbG := tb_4 134 rfl rfl
theorem tk_X12_132 : Cond.constantLong RX12 132 (4096) ∈ tbG := tb_4 135 rfl rfl
theorem tl_X12_134 : Cond.methodLink RX12 134 yX12_regOrPointer ∈ tbG := tb_4 136 rfl rfl
theorem tm_X12_regOrPointer : Cond.instanceMethod yX12_regOrPointer ∈ tbG := tb_4 138 rfl rfl
theorem tc_X12_regOrPointer : Cond.code yX12_regOrPointer cX12_regOrPointer 2 (some .long) ∈ tbG := tb_4 139 rfl rfl
theorem tl_X12_112 : Cond.methodLink RX12 112 yX12_pointer ∈ tbG := tb_4 140 rfl rfl
theorem tm_X12_pointer : Cond.instanceMethod yX12_pointer ∈ tbG := tb_4 142 rfl rfl
theorem tc_X12_pointer : Cond.code yX12_pointer cX12_pointer 1 (some .int) ∈ tbG := tb_4 143 rfl rfl
theorem tl_X12_138 : Cond.methodLink RX12 138 yX12_cut ∈ tbG := tb_4 144 rfl rfl
theorem ts_X12_cut : Cond.static yX12_cut ∈ tbG := tb_4 145 rfl rfl
theorem tc_X12_cut : Cond.code yX12_cut cX12_cut 3 (some .long) ∈ tbG := tb_4 146 rfl rfl
theorem tk_X12_141 : Cond.constantLong RX12 141 (-1) ∈ tbG := tb_4 147 rfl rfl
theorem tl_X12_143 : Cond.methodLink RX12 143 yX12_sum ∈ tbG := tb_4 148 rfl rfl
theorem tm_X12_sum : Cond.instanceMethod yX12_sum ∈ tbG := tb_4 150 rfl rfl
theorem tc_X12_sum : Cond.code yX12_sum cX12_sum 13 (some .long) ∈ tbG := tb_4 151 rfl rfl
theorem tl_X12_147 : Cond.methodLink RX12 147 yX12_signs ∈ tbG := tb_4 152 rfl rfl
theorem tm_X12_signs : Cond.instanceMethod yX12_signs ∈ tbG := tb_4 154 rfl rfl
theorem tc_X12_signs : Cond.code yX12_signs cX12_signs 7 none ∈ tbG := tb_4 155 rfl rfl
theorem tl_X12_151 : Cond.methodLink RX12 151 yX12_put ∈ tbG := tb_4 156 rfl rfl
theorem tm_X12_put : Cond.instanceMethod yX12_put ∈ tbG := tb_4 158 rfl rfl
theorem tc_X12_put : Cond.code yX12_put cX12_put 4 none ∈ tbG := tb_4 159 rfl rfl
theorem tl_X12_155 : Cond.methodLink RX12 155 yX12_putOrPointer ∈ tbG := tb_4 160 rfl rfl
theorem tm_X12_putOrPointer : Cond.instanceMethod yX12_putOrPointer ∈ tbG := tb_4 162 rfl rfl
theorem tc_X12_putOrPointer : Cond.code yX12_putOrPointer cX12_putOrPointer 4 none ∈ tbG := tb_4 163 rfl rfl
theorem tl_X12_233 : Cond.methodLink RX12 233 yX12_sums ∈ tbG := tb_4 164 rfl rfl
theorem tm_X12_sums : Cond.instanceMethod yX12_sums ∈ tbG := tb_4 166 rfl rfl
theorem tc_X12_sums : Cond.code yX12_sums cX12_sums 8 none ∈ tbG := tb_4 167 rfl rfl
theorem tl_X12_158 : Cond.methodLink RX12 158 yX12_none ∈ tbG := tb_4 168 rfl rfl
theorem tm_X12_none : Cond.instanceMethod yX12_none ∈ tbG := tb_4 170 rfl rfl
theorem tc_X12_none : Cond.code yX12_none cX12_none 1 none ∈ tbG := tb_4 171 rfl rfl
theorem tl_X12_161 : Cond.methodLink RX12 161 yX12_reg ∈ tbG := tb_4 172 rfl rfl
theorem tm_X12_reg : Cond.instanceMethod yX12_reg ∈ tbG := tb_4 174 rfl rfl
theorem tc_X12_reg : Cond.code yX12_reg cX12_reg 2 (some .long) ∈ tbG := tb_4 175 rfl rfl
theorem tl_X12_164 : Cond.methodLink RX12 164 yX12_moved ∈ tbG := tb_4 176 rfl rfl
theorem ts_X12_moved : Cond.static yX12_moved ∈ tbG := tb_4 177 rfl rfl
theorem tc_X12_moved : Cond.code yX12_moved cX12_moved 9 (some .long) ∈ tbG := tb_4 178 rfl rfl
theorem tl_X12_236 : Cond.methodLink RX12 236 yX12_logic ∈ tbG := tb_4 179 rfl rfl
theorem tm_X12_logic : Cond.instanceMethod yX12_logic ∈ tbG := tb_4 181 rfl rfl
theorem tc_X12_logic : Cond.code yX12_logic cX12_logic 6 none ∈ tbG := tb_4 182 rfl rfl
theorem tl_X12_168 : Cond.methodLink RX12 168 yX12_joined ∈ tbG := tb_4 183 rfl rfl
theorem tm_X12_joined : Cond.instanceMethod yX12_joined ∈ tbG := tb_4 185 rfl rfl
theorem tc_X12_joined : Cond.code yX12_joined cX12_joined 6 (some .long) ∈ tbG := tb_4 186 rfl rfl
theorem tl_X12_239 : Cond.methodLink RX12 239 yX12_masks ∈ tbG := tb_4 187 rfl rfl
theorem tm_X12_masks : Cond.instanceMethod yX12_masks ∈ tbG := tb_4 189 rfl rfl
theorem tc_X12_masks : Cond.code yX12_masks cX12_masks 11 none ∈ tbG := tb_4 190 rfl rfl
theorem tl_X12_242 : Cond.methodLink RX12 242 yX12_move ∈ tbG := tb_4 191 rfl rfl
theorem tm_X12_move : Cond.instanceMethod yX12_move ∈ tbG := tb_4 193 rfl rfl
theorem tc_X12_move : Cond.code yX12_move cX12_move 8 none ∈ tbG := tb_4 194 rfl rfl
theorem tk_X12_172 : Cond.constantLong RX12 172 (65535) ∈ tbG := tb_4 195 rfl rfl
theorem tl_X12_245 : Cond.methodLink RX12 245 yX12_placeOf ∈ tbG := tb_4 196 rfl rfl
theorem tm_X12_placeOf : Cond.instanceMethod yX12_placeOf ∈ tbG := tb_4 198 rfl rfl
theorem tc_X12_placeOf : Cond.code yX12_placeOf cX12_placeOf 3 none ∈ tbG := tb_4 199 rfl rfl
theorem tl_X12_125 : Cond.methodLink RX12 125 yX12_extend ∈ tbG := tb_4 200 rfl rfl
theorem ts_X12_extend : Cond.static yX12_extend ∈ tbG := tb_4 201 rfl rfl
theorem tc_X12_extend : Cond.code yX12_extend cX12_extend 6 (some .long) ∈ tbG := tb_4 202 rfl rfl
theorem tk_X12_174 : Cond.constantLong RX12 174 (-4096) ∈ tbG := tb_4 203 rfl rfl
theorem tl_X12_248 : Cond.methodLink RX12 248 yX12_bitsOf ∈ tbG := tb_4 204 rfl rfl
theorem tm_X12_bitsOf : Cond.instanceMethod yX12_bitsOf ∈ tbG := tb_4 206 rfl rfl
theorem tc_X12_bitsOf : Cond.code yX12_bitsOf cX12_bitsOf 17 none ∈ tbG := tb_4 207 rfl rfl
theorem tl_X12_251 : Cond.methodLink RX12 251 yX12_twice ∈ tbG := tb_4 208 rfl rfl
theorem tm_X12_twice : Cond.instanceMethod yX12_twice ∈ tbG := tb_4 210 rfl rfl
theorem tc_X12_twice : Cond.code yX12_twice cX12_twice 11 none ∈ tbG := tb_4 211 rfl rfl
theorem tl_X12_254 : Cond.methodLink RX12 254 yX12_choose ∈ tbG := tb_4 212 rfl rfl
theorem tm_X12_choose : Cond.instanceMethod yX12_choose ∈ tbG := tb_4 214 rfl rfl
theorem tc_X12_choose : Cond.code yX12_choose cX12_choose 4 none ∈ tbG := tb_4 215 rfl rfl
theorem tl_X12_176 : Cond.methodLink RX12 176 yX12_holds ∈ tbG := tb_4 216 rfl rfl
theorem tm_X12_holds : Cond.instanceMethod yX12_holds ∈ tbG := tb_4 218 rfl rfl
theorem tc_X12_holds : Cond.code yX12_holds cX12_holds 8 (some .boolean) ∈ tbG := tb_4 219 rfl rfl
theorem tl_X12_257 : Cond.methodLink RX12 257 yX12_compare ∈ tbG := tb_4 220 rfl rfl
theorem tm_X12_compare : Cond.instanceMethod yX12_compare ∈ tbG := tb_4 222 rfl rfl
theorem tc_X12_compare : Cond.code yX12_compare cX12_compare 8 none ∈ tbG := tb_4 223 rfl rfl
theorem tl_X12_260 : Cond.methodLink RX12 260 yX12_times ∈ tbG := tb_4 224 rfl rfl
theorem tm_X12_times : Cond.instanceMethod yX12_times ∈ tbG := tb_4 226 rfl rfl
theorem tc_X12_times : Cond.code yX12_times cX12_times 6 none ∈ tbG := tb_4 227 rfl rfl
theorem tl_X12_263 : Cond.methodLink RX12 263 yX12_highOf ∈ tbG := tb_4 228 rfl rfl
theorem tm_X12_highOf : Cond.instanceMethod yX12_highOf ∈ tbG := tb_4 230 rfl rfl
theorem tc_X12_highOf : Cond.code yX12_highOf cX12_highOf 7 none ∈ tbG := tb_4 231 rfl rfl
theorem tl_X12_179 : Cond.methodLink RX12 179 yX12_upper ∈ tbG := tb_4 232 rfl rfl
theorem ts_X12_upper : Cond.static yX12_upper ∈ tbG := tb_4 233 rfl rfl
theorem tc_X12_upper : Cond.code yX12_upper cX12_upper 20 (some .long) ∈ tbG := tb_4 234 rfl rfl
theorem tl_X12_266 : Cond.methodLink RX12 266 yX12_two ∈ tbG := tb_4 235 rfl rfl
theorem tm_X12_two : Cond.instanceMethod yX12_two ∈ tbG := tb_4 237 rfl rfl
theorem tc_X12_two : Cond.code yX12_two cX12_two 11 none ∈ tbG := tb_4 238 rfl rfl
theorem tl_X12_185 : Cond.methodLink RX12 185 yX12_quotient ∈ tbG := tb_4 239 rfl rfl
theorem ts_X12_quotient : Cond.static yX12_quotient ∈ tbG := tb_5 0 rfl rfl
theorem tc_X12_quotient : Cond.code yX12_quotient cX12_quotient 11 (some .long) ∈ tbG := tb_5 1 rfl rfl
theorem tk_X12_183 : Cond.constantLong RX12 183 (-9223372036854775808) ∈ tbG := tb_5 2 rfl rfl
theorem tl_X12_269 : Cond.methodLink RX12 269 yX12_one ∈ tbG := tb_5 3 rfl rfl
theorem tm_X12_one : Cond.instanceMethod yX12_one ∈ tbG := tb_5 5 rfl rfl
theorem tc_X12_one : Cond.code yX12_one cX12_one 10 none ∈ tbG := tb_5 6 rfl rfl
theorem tk_X12_189 : Cond.constantLong RX12 189 (255) ∈ tbG := tb_5 7 rfl rfl
theorem tl_X12_272 : Cond.methodLink RX12 272 yX12_branch ∈ tbG := tb_5 8 rfl rfl
theorem tm_X12_branch : Cond.instanceMethod yX12_branch ∈ tbG := tb_5 10 rfl rfl
theorem tc_X12_branch : Cond.code yX12_branch cX12_branch 3 none ∈ tbG := tb_5 11 rfl rfl
theorem tl_X12_191 : Cond.methodLink RX12 191 yX12_signed ∈ tbG := tb_5 12 rfl rfl
theorem tm_X12_signed : Cond.instanceMethod yX12_signed ∈ tbG := tb_5 14 rfl rfl
theorem tc_X12_signed : Cond.code yX12_signed cX12_signed 3 (some .long) ∈ tbG := tb_5 15 rfl rfl
theorem tl_X12_194 : Cond.methodLink RX12 194 yX12_goes ∈ tbG := tb_5 16 rfl rfl
theorem tm_X12_goes : Cond.instanceMethod yX12_goes ∈ tbG := tb_5 18 rfl rfl
theorem tc_X12_goes : Cond.code yX12_goes cX12_goes 3 none ∈ tbG := tb_5 19 rfl rfl
theorem tl_X12_275 : Cond.methodLink RX12 275 yX12_zero ∈ tbG := tb_5 20 rfl rfl
theorem tm_X12_zero : Cond.instanceMethod yX12_zero ∈ tbG := tb_5 22 rfl rfl
theorem tc_X12_zero : Cond.code yX12_zero cX12_zero 2 none ∈ tbG := tb_5 23 rfl rfl
theorem tl_X12_278 : Cond.methodLink RX12 278 yX12_byBit ∈ tbG := tb_5 24 rfl rfl
theorem tm_X12_byBit : Cond.instanceMethod yX12_byBit ∈ tbG := tb_5 26 rfl rfl
theorem tc_X12_byBit : Cond.code yX12_byBit cX12_byBit 2 none ∈ tbG := tb_5 27 rfl rfl
theorem tl_X12_281 : Cond.methodLink RX12 281 yX12_toRegister ∈ tbG := tb_5 28 rfl rfl
theorem tm_X12_toRegister : Cond.instanceMethod yX12_toRegister ∈ tbG := tb_5 30 rfl rfl
theorem tc_X12_toRegister : Cond.code yX12_toRegister cX12_toRegister 3 none ∈ tbG := tb_5 31 rfl rfl
theorem tl_X12_284 : Cond.methodLink RX12 284 yX12_loads ∈ tbG := tb_5 32 rfl rfl
theorem tm_X12_loads : Cond.instanceMethod yX12_loads ∈ tbG := tb_5 34 rfl rfl
theorem tc_X12_loads : Cond.code yX12_loads cX12_loads 15 none ∈ tbG := tb_5 35 rfl rfl
theorem tl_X12_217 : Cond.methodLink RX12 217 yX12_baseStands ∈ tbG := tb_5 36 rfl rfl
theorem tm_X12_baseStands : Cond.instanceMethod yX12_baseStands ∈ tbG := tb_5 38 rfl rfl
theorem tc_X12_baseStands : Cond.code yX12_baseStands cX12_baseStands 2 (some .boolean) ∈ tbG := tb_5 39 rfl rfl
theorem tk_X12_198 : Cond.constantLong RX12 198 (15) ∈ tbG := tb_5 40 rfl rfl
theorem tl_X12_220 : Cond.methodLink RX12 220 yX12_single ∈ tbG := tb_5 41 rfl rfl
theorem tm_X12_single : Cond.instanceMethod yX12_single ∈ tbG := tb_5 43 rfl rfl
theorem tc_X12_single : Cond.code yX12_single cX12_single 14 none ∈ tbG := tb_5 44 rfl rfl
theorem tl_X12_210 : Cond.methodLink RX12 210 yX12_reaches ∈ tbG := tb_5 45 rfl rfl
theorem tm_X12_reaches : Cond.instanceMethod yX12_reaches ∈ tbG := tb_5 47 rfl rfl
theorem tc_X12_reaches : Cond.code yX12_reaches cX12_reaches 7 (some .boolean) ∈ tbG := tb_5 48 rfl rfl
theorem tl_X12_207 : Cond.methodLink RX12 207 yX12_dataFault ∈ tbG := tb_5 49 rfl rfl
theorem tm_X12_dataFault : Cond.instanceMethod yX12_dataFault ∈ tbG := tb_5 51 rfl rfl
theorem tc_X12_dataFault : Cond.code yX12_dataFault cX12_dataFault 6 none ∈ tbG := tb_5 52 rfl rfl
theorem tk_X12_110 : Cond.constantLong RX12 110 (64) ∈ tbG := tb_5 53 rfl rfl
theorem tl_X12_214 : Cond.methodLink RX12 214 yX12_keep ∈ tbG := tb_5 54 rfl rfl
theorem tm_X12_keep : Cond.instanceMethod yX12_keep ∈ tbG := tb_5 56 rfl rfl
theorem tc_X12_keep : Cond.code yX12_keep cX12_keep 5 none ∈ tbG := tb_5 57 rfl rfl
theorem tl_X12_287 : Cond.methodLink RX12 287 yX12_pair ∈ tbG := tb_5 58 rfl rfl
theorem tm_X12_pair : Cond.instanceMethod yX12_pair ∈ tbG := tb_5 60 rfl rfl
theorem tc_X12_pair : Cond.code yX12_pair cX12_pair 23 none ∈ tbG := tb_5 61 rfl rfl
theorem tl_X12_290 : Cond.methodLink RX12 290 yX12_near ∈ tbG := tb_5 62 rfl rfl
theorem tm_X12_near : Cond.instanceMethod yX12_near ∈ tbG := tb_5 64 rfl rfl
theorem tc_X12_near : Cond.code yX12_near cX12_near 4 none ∈ tbG := tb_5 65 rfl rfl
theorem tk_X12_293 : Cond.constant RX12 293 (436249) ∈ tbG := tb_5 66 rfl rfl
theorem tk_X12_294 : Cond.constant RX12 294 (54943) ∈ tbG := tb_5 67 rfl rfl
theorem tl_X12_295 : Cond.methodLink RX12 295 yX12_back ∈ tbG := tb_5 68 rfl rfl
theorem tm_X12_back : Cond.instanceMethod yX12_back ∈ tbG := tb_5 70 rfl rfl
theorem tc_X12_back : Cond.code yX12_back cX12_back 2 none ∈ tbG := tb_5 71 rfl rfl
theorem tl_X12_298 : Cond.methodLink RX12 298 yX12_system ∈ tbG := tb_5 72 rfl rfl
theorem tm_X12_system : Cond.instanceMethod yX12_system ∈ tbG := tb_5 74 rfl rfl
theorem tc_X12_system : Cond.code yX12_system cX12_system 7 none ∈ tbG := tb_5 75 rfl rfl
theorem tl_X12_224 : Cond.methodLink RX12 224 yX12_slot ∈ tbG := tb_5 76 rfl rfl
theorem ts_X12_slot : Cond.static yX12_slot ∈ tbG := tb_5 77 rfl rfl
theorem tc_X12_slot : Cond.code yX12_slot cX12_slot 1 (some .int) ∈ tbG := tb_5 78 rfl rfl
theorem tk_X12_228 : Cond.constantLong RX12 228 (3145728) ∈ tbG := tb_5 79 rfl rfl
theorem tl_X12_301 : Cond.methodLink RX12 301 yX12_sets ∈ tbG := tb_5 80 rfl rfl
theorem tm_X12_sets : Cond.instanceMethod yX12_sets ∈ tbG := tb_5 82 rfl rfl
theorem tc_X12_sets : Cond.code yX12_sets cX12_sets 4 none ∈ tbG := tb_5 83 rfl rfl
theorem tl_L_49 : Cond.methodLink RL 49 yX12_look ∈ tbG := tb_5 84 rfl rfl
theorem tm_X12_look : Cond.instanceMethod yX12_look ∈ tbG := tb_5 85 rfl rfl
theorem te_X12_look : Cond.selects RX12 yX12_look yX12_look ∈ tbG := tb_5 86 rfl rfl
theorem tc_X12_look : Cond.code yX12_look cX12_look 5 (some .int) ∈ tbG := tb_5 87 rfl rfl
theorem te_X11_isWordPlace : Cond.selects RX11 yX11_isWordPlace yX11_isWordPlace ∈ tbG := tb_p 0 rfl rfl
theorem te_X8_enter : Cond.selects RX8 yX8_enter yX8_enter ∈ tbG := tb_p 1 rfl rfl
theorem te_X8_tell : Cond.selects RX8 yX8_tell yX8_tell ∈ tbG := tb_p 2 rfl rfl
theorem te_X10_translated : Cond.selects RX10 yX10_translated yX10_translated ∈ tbG := tb_p 3 rfl rfl
theorem te_X0_stackIsCrooked : Cond.selects RX0 yX0_stackIsCrooked yX0_stackIsCrooked ∈ tbG := tb_p 4 rfl rfl
theorem te_X8_stack : Cond.selects RX8 yX8_stack yX8_stack ∈ tbG := tb_p 5 rfl rfl
theorem te_X0_find : Cond.selects RX0 yX0_find yX0_find ∈ tbG := tb_p 6 rfl rfl
theorem te_X7_right : Cond.selects RX7 yX7_right yX7_right ∈ tbG := tb_p 7 rfl rfl
theorem te_X7_left : Cond.selects RX7 yX7_left yX7_left ∈ tbG := tb_p 8 rfl rfl
theorem te_X7_put : Cond.selects RX7 yX7_put yX7_put ∈ tbG := tb_p 9 rfl rfl
theorem te_X6_performsBranch : Cond.selects RX6 yX6_performsBranch yX6_performsBranch ∈ tbG := tb_p 10 rfl rfl
theorem te_X2_jump : Cond.selects RX2 yX2_jump yX2_jump ∈ tbG := tb_p 11 rfl rfl
theorem te_X6_performsControl : Cond.selects RX6 yX6_performsControl yX6_performsControl ∈ tbG := tb_p 12 rfl rfl
theorem te_X0_offset : Cond.selects RX0 yX0_offset yX0_offset ∈ tbG := tb_p 13 rfl rfl
theorem te_X6_performsRegisters : Cond.selects RX6 yX6_performsRegisters yX6_performsRegisters ∈ tbG := tb_p 14 rfl rfl
theorem te_X12_bytes : Cond.selects RX12 yX12_bytes yX12_bytes ∈ tbG := tb_p 15 rfl rfl
theorem te_X12_part : Cond.selects RX12 yX12_part yX12_part ∈ tbG := tb_p 16 rfl rfl
theorem te_X12_oneStep : Cond.selects RX12 yX12_oneStep yX12_oneStep ∈ tbG := tb_p 17 rfl rfl
theorem te_X12_enters : Cond.selects RX12 yX12_enters yX12_enters ∈ tbG := tb_p 18 rfl rfl
theorem te_X12_exception : Cond.selects RX12 yX12_exception yX12_exception ∈ tbG := tb_p 19 rfl rfl
theorem te_X12_leads : Cond.selects RX12 yX12_leads yX12_leads ∈ tbG := tb_p 20 rfl rfl
theorem te_X12_wrong : Cond.selects RX12 yX12_wrong yX12_wrong ∈ tbG := tb_p 21 rfl rfl
theorem te_X12_inside : Cond.selects RX12 yX12_inside yX12_inside ∈ tbG := tb_p 22 rfl rfl
theorem te_X12_does : Cond.selects RX12 yX12_does yX12_does ∈ tbG := tb_p 23 rfl rfl
theorem te_X12_f : Cond.selects RX12 yX12_f yX12_f ∈ tbG := tb_p 24 rfl rfl
theorem te_X12_number : Cond.selects RX12 yX12_number yX12_number ∈ tbG := tb_p 25 rfl rfl
theorem te_X12_width : Cond.selects RX12 yX12_width yX12_width ∈ tbG := tb_p 26 rfl rfl
theorem te_X12_on : Cond.selects RX12 yX12_on yX12_on ∈ tbG := tb_p 27 rfl rfl
theorem te_X12_regOrPointer : Cond.selects RX12 yX12_regOrPointer yX12_regOrPointer ∈ tbG := tb_p 28 rfl rfl
theorem te_X12_pointer : Cond.selects RX12 yX12_pointer yX12_pointer ∈ tbG := tb_p 29 rfl rfl
theorem te_X12_sum : Cond.selects RX12 yX12_sum yX12_sum ∈ tbG := tb_p 30 rfl rfl
theorem te_X12_signs : Cond.selects RX12 yX12_signs yX12_signs ∈ tbG := tb_p 31 rfl rfl
theorem te_X12_put : Cond.selects RX12 yX12_put yX12_put ∈ tbG := tb_p 32 rfl rfl
theorem te_X12_putOrPointer : Cond.selects RX12 yX12_putOrPointer yX12_putOrPointer ∈ tbG := tb_p 33 rfl rfl
theorem te_X12_sums : Cond.selects RX12 yX12_sums yX12_sums ∈ tbG := tb_p 34 rfl rfl
theorem te_X12_none : Cond.selects RX12 yX12_none yX12_none ∈ tbG := tb_p 35 rfl rfl
theorem te_X12_reg : Cond.selects RX12 yX12_reg yX12_reg ∈ tbG := tb_p 36 rfl rfl
theorem te_X12_logic : Cond.selects RX12 yX12_logic yX12_logic ∈ tbG := tb_p 37 rfl rfl
theorem te_X12_joined : Cond.selects RX12 yX12_joined yX12_joined ∈ tbG := tb_p 38 rfl rfl
theorem te_X12_masks : Cond.selects RX12 yX12_masks yX12_masks ∈ tbG := tb_p 39 rfl rfl
theorem te_X12_move : Cond.selects RX12 yX12_move yX12_move ∈ tbG := tb_p 40 rfl rfl
theorem te_X12_placeOf : Cond.selects RX12 yX12_placeOf yX12_placeOf ∈ tbG := tb_p 41 rfl rfl
theorem te_X12_bitsOf : Cond.selects RX12 yX12_bitsOf yX12_bitsOf ∈ tbG := tb_p 42 rfl rfl
theorem te_X12_twice : Cond.selects RX12 yX12_twice yX12_twice ∈ tbG := tb_p 43 rfl rfl
theorem te_X12_choose : Cond.selects RX12 yX12_choose yX12_choose ∈ tbG := tb_p 44 rfl rfl
theorem te_X12_holds : Cond.selects RX12 yX12_holds yX12_holds ∈ tbG := tb_p 45 rfl rfl
theorem te_X12_compare : Cond.selects RX12 yX12_compare yX12_compare ∈ tbG := tb_p 46 rfl rfl
theorem te_X12_times : Cond.selects RX12 yX12_times yX12_times ∈ tbG := tb_p 47 rfl rfl
theorem te_X12_highOf : Cond.selects RX12 yX12_highOf yX12_highOf ∈ tbG := tb_p 48 rfl rfl
theorem te_X12_two : Cond.selects RX12 yX12_two yX12_two ∈ tbG := tb_p 49 rfl rfl
theorem te_X12_one : Cond.selects RX12 yX12_one yX12_one ∈ tbG := tb_p 50 rfl rfl
theorem te_X12_branch : Cond.selects RX12 yX12_branch yX12_branch ∈ tbG := tb_p 51 rfl rfl
theorem te_X12_signed : Cond.selects RX12 yX12_signed yX12_signed ∈ tbG := tb_p 52 rfl rfl
theorem te_X12_goes : Cond.selects RX12 yX12_goes yX12_goes ∈ tbG := tb_p 53 rfl rfl
theorem te_X12_zero : Cond.selects RX12 yX12_zero yX12_zero ∈ tbG := tb_p 54 rfl rfl
theorem te_X12_byBit : Cond.selects RX12 yX12_byBit yX12_byBit ∈ tbG := tb_p 55 rfl rfl
theorem te_X12_toRegister : Cond.selects RX12 yX12_toRegister yX12_toRegister ∈ tbG := tb_p 56 rfl rfl
theorem te_X12_loads : Cond.selects RX12 yX12_loads yX12_loads ∈ tbG := tb_p 57 rfl rfl
theorem te_X12_baseStands : Cond.selects RX12 yX12_baseStands yX12_baseStands ∈ tbG := tb_p 58 rfl rfl
theorem te_X12_single : Cond.selects RX12 yX12_single yX12_single ∈ tbG := tb_p 59 rfl rfl
theorem te_X12_reaches : Cond.selects RX12 yX12_reaches yX12_reaches ∈ tbG := tb_p 60 rfl rfl
theorem te_X12_dataFault : Cond.selects RX12 yX12_dataFault yX12_dataFault ∈ tbG := tb_p 61 rfl rfl
theorem te_X12_keep : Cond.selects RX12 yX12_keep yX12_keep ∈ tbG := tb_p 62 rfl rfl
theorem te_X12_pair : Cond.selects RX12 yX12_pair yX12_pair ∈ tbG := tb_p 63 rfl rfl
theorem te_X12_near : Cond.selects RX12 yX12_near yX12_near ∈ tbG := tb_p 64 rfl rfl
theorem te_X12_back : Cond.selects RX12 yX12_back yX12_back ∈ tbG := tb_p 65 rfl rfl
theorem te_X12_system : Cond.selects RX12 yX12_system yX12_system ∈ tbG := tb_p 66 rfl rfl
theorem te_X12_sets : Cond.selects RX12 yX12_sets yX12_sets ∈ tbG := tb_p 67 rfl rfl
theorem tw_X0 : ∀ w ∈ u_ws RX0 TX0 3, w ∈ tbG := tb_ws (by decide +kernel)
theorem tw_X2 : ∀ w ∈ u_ws RX2 TX2 1, w ∈ tbG := tb_ws (by decide +kernel)
theorem tw_X3 : ∀ w ∈ u_ws RX3 TX3 1, w ∈ tbG := tb_ws (by decide +kernel)
theorem tw_X4 : ∀ w ∈ u_ws RX4 TX4 1, w ∈ tbG := tb_ws (by decide +kernel)
theorem tw_X5 : ∀ w ∈ u_ws RX5 TX5 2, w ∈ tbG := tb_ws (by decide +kernel)
theorem tw_X6 : ∀ w ∈ u_ws RX6 TX6 9, w ∈ tbG := tb_ws (by decide +kernel)
theorem tw_X7 : ∀ w ∈ u_ws RX7 TX7 2, w ∈ tbG := tb_ws (by decide +kernel)
theorem tw_X8 : ∀ w ∈ u_ws RX8 TX8 4, w ∈ tbG := tb_ws (by decide +kernel)
theorem tw_X9 : ∀ w ∈ u_ws RX9 TX9 1, w ∈ tbG := tb_ws (by decide +kernel)
theorem tw_X10 : ∀ w ∈ u_ws RX10 TX10 2, w ∈ tbG := tb_ws (by decide +kernel)
theorem tw_X11 : ∀ w ∈ u_ws RX11 TX11 4, w ∈ tbG := tb_ws (by decide +kernel)
theorem tw_X12 : ∀ w ∈ u_ws RX12 TX12 16, w ∈ tbG := tb_ws (by decide +kernel)
end
section
def j_iushr (x y : Int32) : Int32 := (x.toUInt32 >>> (y.toUInt32 &&& Int32.toUInt32 31)).toInt32
def j_lushr (x : Int64) (y : Int32) : Int64 := (x.toUInt64 >>> (y.toInt64.toUInt64 &&& Int64.toUInt64 63)).toInt64
def j_lshl (x : Int64) (y : Int32) : Int64 := x <<< (y.toInt64 &&& 63)
def j_lshr (x : Int64) (y : Int32) : Int64 := x >>> (y.toInt64 &&& 63)
theorem vin_of {x N : Int32} {n : Nat} (hN : N.toInt = n) (h1 : ¬ x < 0) (h2 : ¬ N ≤ x) : vp_in x n := by
  rw [vp_in_iff]
  rw [Int32.lt_iff_toInt_lt] at h1
  rw [Int32.le_iff_toInt_le, hN] at h2
  rw [show (0 : Int32).toInt = 0 from rfl] at h1
  omega
abbrev XS : Type := (Nat → Int64) × (Nat → Int64) × Bool × Int64 × Int32 × Int32
abbrev xC (σ : XS) : Nat → Int64 := σ.1
abbrev xP (σ : XS) : Nat → Int64 := σ.2.1
abbrev xI (σ : XS) : Bool := σ.2.2.1
abbrev xN (σ : XS) : Int64 := σ.2.2.2.1
abbrev xT (σ : XS) : Int32 := σ.2.2.2.2.1
abbrev xO (σ : XS) : Int32 := σ.2.2.2.2.2
def xuC (σ : XS) (v : Nat → Int64) : XS := (v, σ.2)
def xuP (σ : XS) (v : Nat → Int64) : XS := (σ.1, v, σ.2.2)
def xuI (σ : XS) (v : Bool) : XS := (σ.1, σ.2.1, v, σ.2.2.2)
def xuN (σ : XS) (v : Int64) : XS := (σ.1, σ.2.1, σ.2.2.1, v, σ.2.2.2.2)
def xuT (σ : XS) (v : Int32) : XS := (σ.1, σ.2.1, σ.2.2.1, σ.2.2.2.1, v, σ.2.2.2.2.2)
def xuO (σ : XS) (v : Int32) : XS := (σ.1, σ.2.1, σ.2.2.1, σ.2.2.2.1, σ.2.2.2.2.1, v)
abbrev MS : Type := (Nat → Int32) × (Nat → Int64) × (Nat → Int64) × Int32 × Int32 × Int32 × Int32 × Bool × Int32 × Int64 × Int32 × Int32 × Int32 × Int32 × Bool × Int32
abbrev m_mem (σ : MS) : Nat → Int32 := σ.1
abbrev m_x (σ : MS) : Nat → Int64 := σ.2.1
abbrev m_state (σ : MS) : Nat → Int64 := σ.2.2.1
abbrev m_flags (σ : MS) : Int32 := σ.2.2.2.1
abbrev m_level (σ : MS) : Int32 := σ.2.2.2.2.1
abbrev m_select (σ : MS) : Int32 := σ.2.2.2.2.2.1
abbrev m_masked (σ : MS) : Int32 := σ.2.2.2.2.2.2.1
abbrev m_calls (σ : MS) : Bool := σ.2.2.2.2.2.2.2.1
abbrev m_faultWhat (σ : MS) : Int32 := σ.2.2.2.2.2.2.2.2.1
abbrev m_place (σ : MS) : Int64 := σ.2.2.2.2.2.2.2.2.2.1
abbrev m_taken (σ : MS) : Int32 := σ.2.2.2.2.2.2.2.2.2.2.1
abbrev m_carry (σ : MS) : Int32 := σ.2.2.2.2.2.2.2.2.2.2.2.1
abbrev m_over (σ : MS) : Int32 := σ.2.2.2.2.2.2.2.2.2.2.2.2.1
abbrev m_ins (σ : MS) : Int32 := σ.2.2.2.2.2.2.2.2.2.2.2.2.2.1
abbrev m_asked (σ : MS) : Bool := σ.2.2.2.2.2.2.2.2.2.2.2.2.2.2.1
abbrev m_thrownCode (σ : MS) : Int32 := σ.2.2.2.2.2.2.2.2.2.2.2.2.2.2.2
def mu_mem (σ : MS) (v : Nat → Int32) : MS := (v, σ.2)
def mu_x (σ : MS) (v : Nat → Int64) : MS := (σ.1, v, σ.2.2)
def mu_state (σ : MS) (v : Nat → Int64) : MS := (σ.1, σ.2.1, v, σ.2.2.2)
def mu_flags (σ : MS) (v : Int32) : MS := (σ.1, σ.2.1, σ.2.2.1, v, σ.2.2.2.2)
def mu_level (σ : MS) (v : Int32) : MS := (σ.1, σ.2.1, σ.2.2.1, σ.2.2.2.1, v, σ.2.2.2.2.2)
def mu_select (σ : MS) (v : Int32) : MS := (σ.1, σ.2.1, σ.2.2.1, σ.2.2.2.1, σ.2.2.2.2.1, v, σ.2.2.2.2.2.2)
def mu_masked (σ : MS) (v : Int32) : MS := (σ.1, σ.2.1, σ.2.2.1, σ.2.2.2.1, σ.2.2.2.2.1, σ.2.2.2.2.2.1, v, σ.2.2.2.2.2.2.2)
def mu_calls (σ : MS) (v : Bool) : MS := (σ.1, σ.2.1, σ.2.2.1, σ.2.2.2.1, σ.2.2.2.2.1, σ.2.2.2.2.2.1, σ.2.2.2.2.2.2.1, v, σ.2.2.2.2.2.2.2.2)
def mu_faultWhat (σ : MS) (v : Int32) : MS := (σ.1, σ.2.1, σ.2.2.1, σ.2.2.2.1, σ.2.2.2.2.1, σ.2.2.2.2.2.1, σ.2.2.2.2.2.2.1, σ.2.2.2.2.2.2.2.1, v, σ.2.2.2.2.2.2.2.2.2)
def mu_place (σ : MS) (v : Int64) : MS := (σ.1, σ.2.1, σ.2.2.1, σ.2.2.2.1, σ.2.2.2.2.1, σ.2.2.2.2.2.1, σ.2.2.2.2.2.2.1, σ.2.2.2.2.2.2.2.1, σ.2.2.2.2.2.2.2.2.1, v, σ.2.2.2.2.2.2.2.2.2.2)
def mu_taken (σ : MS) (v : Int32) : MS := (σ.1, σ.2.1, σ.2.2.1, σ.2.2.2.1, σ.2.2.2.2.1, σ.2.2.2.2.2.1, σ.2.2.2.2.2.2.1, σ.2.2.2.2.2.2.2.1, σ.2.2.2.2.2.2.2.2.1, σ.2.2.2.2.2.2.2.2.2.1, v, σ.2.2.2.2.2.2.2.2.2.2.2)
def mu_carry (σ : MS) (v : Int32) : MS := (σ.1, σ.2.1, σ.2.2.1, σ.2.2.2.1, σ.2.2.2.2.1, σ.2.2.2.2.2.1, σ.2.2.2.2.2.2.1, σ.2.2.2.2.2.2.2.1, σ.2.2.2.2.2.2.2.2.1, σ.2.2.2.2.2.2.2.2.2.1, σ.2.2.2.2.2.2.2.2.2.2.1, v, σ.2.2.2.2.2.2.2.2.2.2.2.2)
def mu_over (σ : MS) (v : Int32) : MS := (σ.1, σ.2.1, σ.2.2.1, σ.2.2.2.1, σ.2.2.2.2.1, σ.2.2.2.2.2.1, σ.2.2.2.2.2.2.1, σ.2.2.2.2.2.2.2.1, σ.2.2.2.2.2.2.2.2.1, σ.2.2.2.2.2.2.2.2.2.1, σ.2.2.2.2.2.2.2.2.2.2.1, σ.2.2.2.2.2.2.2.2.2.2.2.1, v, σ.2.2.2.2.2.2.2.2.2.2.2.2.2)
def mu_ins (σ : MS) (v : Int32) : MS := (σ.1, σ.2.1, σ.2.2.1, σ.2.2.2.1, σ.2.2.2.2.1, σ.2.2.2.2.2.1, σ.2.2.2.2.2.2.1, σ.2.2.2.2.2.2.2.1, σ.2.2.2.2.2.2.2.2.1, σ.2.2.2.2.2.2.2.2.2.1, σ.2.2.2.2.2.2.2.2.2.2.1, σ.2.2.2.2.2.2.2.2.2.2.2.1, σ.2.2.2.2.2.2.2.2.2.2.2.2.1, v, σ.2.2.2.2.2.2.2.2.2.2.2.2.2.2)
def mu_asked (σ : MS) (v : Bool) : MS := (σ.1, σ.2.1, σ.2.2.1, σ.2.2.2.1, σ.2.2.2.2.1, σ.2.2.2.2.2.1, σ.2.2.2.2.2.2.1, σ.2.2.2.2.2.2.2.1, σ.2.2.2.2.2.2.2.2.1, σ.2.2.2.2.2.2.2.2.2.1, σ.2.2.2.2.2.2.2.2.2.2.1, σ.2.2.2.2.2.2.2.2.2.2.2.1, σ.2.2.2.2.2.2.2.2.2.2.2.2.1, σ.2.2.2.2.2.2.2.2.2.2.2.2.2.1, v, σ.2.2.2.2.2.2.2.2.2.2.2.2.2.2.2)
def mu_thrownCode (σ : MS) (v : Int32) : MS := (σ.1, σ.2.1, σ.2.2.1, σ.2.2.2.1, σ.2.2.2.2.1, σ.2.2.2.2.2.1, σ.2.2.2.2.2.2.1, σ.2.2.2.2.2.2.2.1, σ.2.2.2.2.2.2.2.2.1, σ.2.2.2.2.2.2.2.2.2.1, σ.2.2.2.2.2.2.2.2.2.2.1, σ.2.2.2.2.2.2.2.2.2.2.2.1, σ.2.2.2.2.2.2.2.2.2.2.2.2.1, σ.2.2.2.2.2.2.2.2.2.2.2.2.2.1, σ.2.2.2.2.2.2.2.2.2.2.2.2.2.2.1, v)
def xW (z : Cx) (r : Nat → Nat) (σ : XS) : va_W := [(r 0, .inr (10, [.ref (r 1), .ref (r 3), .ref (r 5), .ref (r 6)])), (r 1, .inr (3, [.ref (r 2)])), (r 2, .inl (z.2.2, 8192, .inr (.inl (xC σ)))), (r 3, .inr (7, [.ref (r 4), .int (zB (xI σ)), .long (xN σ), .int (xT σ)])), (r 4, .inl (z.2.2, 46, .inr (.inl (xP σ)))), (r 5, .inr (9, [.ref (r 1), .ref (r 3)])), (r 6, .inr (5, [.ref (r 1), .ref (r 3), .ref (r 5), .ref (r 8), .ref (r 9), .ref (r 10), .ref (r 11), .ref (r 12), .int (xO σ)])), (r 7, .inr (8, [.ref (r 3)])), (r 8, .inr (4, [.ref (r 3), .ref (r 7)])), (r 9, .inr (6, [.ref (r 3), .ref (r 7)])), (r 10, .inr (0, [.ref (r 1), .ref (r 3), .ref (r 5)])), (r 11, .inr (1, [.ref (r 3)])), (r 12, .inr (2, [.ref (r 3)]))]
def mW (z : Cx) (r : Nat → Nat) (σ : MS) : va_W := [(r 0, .inr (11, [.int (m_thrownCode σ), .ref (r 1), .ref (r 2), .ref (r 3), .int (m_flags σ), .int (m_level σ), .int (m_select σ), .int (m_masked σ), .int (zB (m_calls σ)), .int (m_faultWhat σ), .long (m_place σ), .int (m_taken σ), .int (m_carry σ), .int (m_over σ), .int (m_ins σ), .int (zB (m_asked σ))])), (r 1, .inl (z.2.1, 65536, .inl (m_mem σ))), (r 2, .inl (z.2.2, 32, .inr (.inl (m_x σ)))), (r 3, .inl (z.2.2, 11, .inr (.inl (m_state σ))))]
section FR
variable {p : Program} {l : Launch} {e : Env} {R : Room} {s : State} {m : MethodId} {args : Array Value} {below : List Frame} {meth : Method} {c : Code} {H : Heap} {locs : List Loc} {Q : State → Prop} {cc : ByteArray} {pc : Nat} {ls : Array Slot} {rest : List Value} {own : String} {index nL : Nat} {z : Cx} {r : Nat → Nat} {A : Nat → Prop}
theorem fg_X11_memory {σ : XS} (S : CallFix p m c cc nL s args tbG own) (hK : va_K z.1 vwCl (cxT z) s) (hP : va_P z.1 vwCl (xW z r σ) H) (hl : Cond.fieldLink own index RX11 "memory" "LGuardCore$Memory;" ∈ tbG) (hdg : decode cc pc = .ok (.getfield index, 3)) (kk : W p l e R s m args below meth c H locs 0 0 Q (F0 m (pc + 3) ls (.ref (r 1) :: rest))) : W p l e R s m args below meth c H locs 0 0 Q (F0 m pc ls (.ref (r 0) :: rest)) :=
  va_get (ci := 10) (C := RX11) (T := TX11) (N := 4) S.1 S.2.1 S.2.2.2.2 tw_X11 S.2.2.2.1 hK hP 0 rfl rfl 0 (by decide) (S.2.2.2.2 _ hl) (fun _ h9 => h9) rfl hdg kk
theorem fg_X11_state {σ : XS} (S : CallFix p m c cc nL s args tbG own) (hK : va_K z.1 vwCl (cxT z) s) (hP : va_P z.1 vwCl (xW z r σ) H) (hl : Cond.fieldLink own index RX11 "state" "LGuardCore$State;" ∈ tbG) (hdg : decode cc pc = .ok (.getfield index, 3)) (kk : W p l e R s m args below meth c H locs 0 0 Q (F0 m (pc + 3) ls (.ref (r 3) :: rest))) : W p l e R s m args below meth c H locs 0 0 Q (F0 m pc ls (.ref (r 0) :: rest)) :=
  va_get (ci := 10) (C := RX11) (T := TX11) (N := 4) S.1 S.2.1 S.2.2.2.2 tw_X11 S.2.2.2.1 hK hP 0 rfl rfl 1 (by decide) (S.2.2.2.2 _ hl) (fun _ h9 => h9) rfl hdg kk
theorem fg_X11_walk {σ : XS} (S : CallFix p m c cc nL s args tbG own) (hK : va_K z.1 vwCl (cxT z) s) (hP : va_P z.1 vwCl (xW z r σ) H) (hl : Cond.fieldLink own index RX11 "walk" "LGuardCore$Walk;" ∈ tbG) (hdg : decode cc pc = .ok (.getfield index, 3)) (kk : W p l e R s m args below meth c H locs 0 0 Q (F0 m (pc + 3) ls (.ref (r 5) :: rest))) : W p l e R s m args below meth c H locs 0 0 Q (F0 m pc ls (.ref (r 0) :: rest)) :=
  va_get (ci := 10) (C := RX11) (T := TX11) (N := 4) S.1 S.2.1 S.2.2.2.2 tw_X11 S.2.2.2.1 hK hP 0 rfl rfl 2 (by decide) (S.2.2.2.2 _ hl) (fun _ h9 => h9) rfl hdg kk
theorem fg_X11_processor {σ : XS} (S : CallFix p m c cc nL s args tbG own) (hK : va_K z.1 vwCl (cxT z) s) (hP : va_P z.1 vwCl (xW z r σ) H) (hl : Cond.fieldLink own index RX11 "processor" "LGuardCore$Processor;" ∈ tbG) (hdg : decode cc pc = .ok (.getfield index, 3)) (kk : W p l e R s m args below meth c H locs 0 0 Q (F0 m (pc + 3) ls (.ref (r 6) :: rest))) : W p l e R s m args below meth c H locs 0 0 Q (F0 m pc ls (.ref (r 0) :: rest)) :=
  va_get (ci := 10) (C := RX11) (T := TX11) (N := 4) S.1 S.2.1 S.2.2.2.2 tw_X11 S.2.2.2.1 hK hP 0 rfl rfl 3 (by decide) (S.2.2.2.2 _ hl) (fun _ h9 => h9) rfl hdg kk
theorem fg_X4_cells {σ : XS} (S : CallFix p m c cc nL s args tbG own) (hK : va_K z.1 vwCl (cxT z) s) (hP : va_P z.1 vwCl (xW z r σ) H) (hl : Cond.fieldLink own index RX4 "cells" "[J" ∈ tbG) (hdg : decode cc pc = .ok (.getfield index, 3)) (kk : W p l e R s m args below meth c H locs 0 0 Q (F0 m (pc + 3) ls (.ref (r 2) :: rest))) : W p l e R s m args below meth c H locs 0 0 Q (F0 m pc ls (.ref (r 1) :: rest)) :=
  va_get (ci := 3) (C := RX4) (T := TX4) (N := 1) S.1 S.2.1 S.2.2.2.2 tw_X4 S.2.2.2.1 hK hP 1 rfl rfl 0 (by decide) (S.2.2.2.2 _ hl) (fun _ h9 => h9) rfl hdg kk
theorem fg_X8_parts {σ : XS} (S : CallFix p m c cc nL s args tbG own) (hK : va_K z.1 vwCl (cxT z) s) (hP : va_P z.1 vwCl (xW z r σ) H) (hl : Cond.fieldLink own index RX8 "parts" "[J" ∈ tbG) (hdg : decode cc pc = .ok (.getfield index, 3)) (kk : W p l e R s m args below meth c H locs 0 0 Q (F0 m (pc + 3) ls (.ref (r 4) :: rest))) : W p l e R s m args below meth c H locs 0 0 Q (F0 m pc ls (.ref (r 3) :: rest)) :=
  va_get (ci := 7) (C := RX8) (T := TX8) (N := 4) S.1 S.2.1 S.2.2.2.2 tw_X8 S.2.2.2.1 hK hP 3 rfl rfl 0 (by decide) (S.2.2.2.2 _ hl) (fun _ h9 => h9) rfl hdg kk
theorem fg_X8_interrupted {σ : XS} (S : CallFix p m c cc nL s args tbG own) (hK : va_K z.1 vwCl (cxT z) s) (hP : va_P z.1 vwCl (xW z r σ) H) (hl : Cond.fieldLink own index RX8 "interrupted" "Z" ∈ tbG) (hdg : decode cc pc = .ok (.getfield index, 3)) (kk : W p l e R s m args below meth c H locs 0 0 Q (F0 m (pc + 3) ls (.int (zB (xI σ)) :: rest))) : W p l e R s m args below meth c H locs 0 0 Q (F0 m pc ls (.ref (r 3) :: rest)) :=
  va_get (ci := 7) (C := RX8) (T := TX8) (N := 4) S.1 S.2.1 S.2.2.2.2 tw_X8 S.2.2.2.1 hK hP 3 rfl rfl 1 (by decide) (S.2.2.2.2 _ hl) (fun _ h9 => h9) rfl hdg kk
theorem fp_X8_interrupted {σ : XS} {v : Bool} (S : CallFix p m c cc nL s args tbG own) (hK : va_K z.1 vwCl (cxT z) s) (hP : va_P z.1 vwCl (xW z r σ) H) (hD : va_D A (xW z r σ)) (hS : va_S A s.heap H locs) (hl : Cond.fieldLink own index RX8 "interrupted" "Z" ∈ tbG) (hdg : decode cc pc = .ok (.putfield index, 3)) (kk : ∀ (H : Heap) (locs : List Loc), va_P z.1 vwCl (xW z r (xuI σ v)) H → va_D A (xW z r (xuI σ v)) → va_S A s.heap H locs → W p l e R s m args below meth c H locs 0 0 Q (F0 m (pc + 3) ls rest)) : W p l e R s m args below meth c H locs 0 0 Q (F0 m pc ls (.int (zB v) :: .ref (r 3) :: rest)) :=
  va_put (ci := 7) (ty := .boolean) (C := RX8) (T := TX8) (N := 4) S.1 S.2.1 S.2.2.2.2 tw_X8 tyX8 tyX8_ok nmX8 S.2.2.2.1 hK hP hD hS 3 rfl rfl 1 (by decide) (S.2.2.2.2 _ hl) (fun _ h9 => h9) rfl (by decide +kernel) (zB_nar v) (zB_fit v) (Nat.le_of_ble_eq_true rfl) hdg (fun H locs hP hD hS => kk H locs hP hD hS)
theorem fg_X8_next {σ : XS} (S : CallFix p m c cc nL s args tbG own) (hK : va_K z.1 vwCl (cxT z) s) (hP : va_P z.1 vwCl (xW z r σ) H) (hl : Cond.fieldLink own index RX8 "next" "J" ∈ tbG) (hdg : decode cc pc = .ok (.getfield index, 3)) (kk : W p l e R s m args below meth c H locs 0 0 Q (F0 m (pc + 3) ls (.long (xN σ) :: rest))) : W p l e R s m args below meth c H locs 0 0 Q (F0 m pc ls (.ref (r 3) :: rest)) :=
  va_get (ci := 7) (C := RX8) (T := TX8) (N := 4) S.1 S.2.1 S.2.2.2.2 tw_X8 S.2.2.2.1 hK hP 3 rfl rfl 2 (by decide) (S.2.2.2.2 _ hl) (fun _ h9 => h9) rfl hdg kk
theorem fp_X8_next {σ : XS} {v : Int64} (S : CallFix p m c cc nL s args tbG own) (hK : va_K z.1 vwCl (cxT z) s) (hP : va_P z.1 vwCl (xW z r σ) H) (hD : va_D A (xW z r σ)) (hS : va_S A s.heap H locs) (hl : Cond.fieldLink own index RX8 "next" "J" ∈ tbG) (hdg : decode cc pc = .ok (.putfield index, 3)) (kk : ∀ (H : Heap) (locs : List Loc), va_P z.1 vwCl (xW z r (xuN σ v)) H → va_D A (xW z r (xuN σ v)) → va_S A s.heap H locs → W p l e R s m args below meth c H locs 0 0 Q (F0 m (pc + 3) ls rest)) : W p l e R s m args below meth c H locs 0 0 Q (F0 m pc ls (.long v :: .ref (r 3) :: rest)) :=
  va_put (ci := 7) (ty := .long) (C := RX8) (T := TX8) (N := 4) S.1 S.2.1 S.2.2.2.2 tw_X8 tyX8 tyX8_ok nmX8 S.2.2.2.1 hK hP hD hS 3 rfl rfl 2 (by decide) (S.2.2.2.2 _ hl) (fun _ h9 => h9) rfl (by decide +kernel) rfl rfl (Nat.le_of_ble_eq_true rfl) hdg (fun H locs hP hD hS => kk H locs hP hD hS)
theorem fg_X8_taken {σ : XS} (S : CallFix p m c cc nL s args tbG own) (hK : va_K z.1 vwCl (cxT z) s) (hP : va_P z.1 vwCl (xW z r σ) H) (hl : Cond.fieldLink own index RX8 "taken" "I" ∈ tbG) (hdg : decode cc pc = .ok (.getfield index, 3)) (kk : W p l e R s m args below meth c H locs 0 0 Q (F0 m (pc + 3) ls (.int (xT σ) :: rest))) : W p l e R s m args below meth c H locs 0 0 Q (F0 m pc ls (.ref (r 3) :: rest)) :=
  va_get (ci := 7) (C := RX8) (T := TX8) (N := 4) S.1 S.2.1 S.2.2.2.2 tw_X8 S.2.2.2.1 hK hP 3 rfl rfl 3 (by decide) (S.2.2.2.2 _ hl) (fun _ h9 => h9) rfl hdg kk
theorem fp_X8_taken {σ : XS} {v : Int32} (S : CallFix p m c cc nL s args tbG own) (hK : va_K z.1 vwCl (cxT z) s) (hP : va_P z.1 vwCl (xW z r σ) H) (hD : va_D A (xW z r σ)) (hS : va_S A s.heap H locs) (hl : Cond.fieldLink own index RX8 "taken" "I" ∈ tbG) (hdg : decode cc pc = .ok (.putfield index, 3)) (kk : ∀ (H : Heap) (locs : List Loc), va_P z.1 vwCl (xW z r (xuT σ v)) H → va_D A (xW z r (xuT σ v)) → va_S A s.heap H locs → W p l e R s m args below meth c H locs 0 0 Q (F0 m (pc + 3) ls rest)) : W p l e R s m args below meth c H locs 0 0 Q (F0 m pc ls (.int v :: .ref (r 3) :: rest)) :=
  va_put (ci := 7) (ty := .int) (C := RX8) (T := TX8) (N := 4) S.1 S.2.1 S.2.2.2.2 tw_X8 tyX8 tyX8_ok nmX8 S.2.2.2.1 hK hP hD hS 3 rfl rfl 3 (by decide) (S.2.2.2.2 _ hl) (fun _ h9 => h9) rfl (by decide +kernel) rfl rfl (Nat.le_of_ble_eq_true rfl) hdg (fun H locs hP hD hS => kk H locs hP hD hS)
theorem fg_X10_memory {σ : XS} (S : CallFix p m c cc nL s args tbG own) (hK : va_K z.1 vwCl (cxT z) s) (hP : va_P z.1 vwCl (xW z r σ) H) (hl : Cond.fieldLink own index RX10 "memory" "LGuardCore$Memory;" ∈ tbG) (hdg : decode cc pc = .ok (.getfield index, 3)) (kk : W p l e R s m args below meth c H locs 0 0 Q (F0 m (pc + 3) ls (.ref (r 1) :: rest))) : W p l e R s m args below meth c H locs 0 0 Q (F0 m pc ls (.ref (r 5) :: rest)) :=
  va_get (ci := 9) (C := RX10) (T := TX10) (N := 2) S.1 S.2.1 S.2.2.2.2 tw_X10 S.2.2.2.1 hK hP 5 rfl rfl 0 (by decide) (S.2.2.2.2 _ hl) (fun _ h9 => h9) rfl hdg kk
theorem fg_X10_state {σ : XS} (S : CallFix p m c cc nL s args tbG own) (hK : va_K z.1 vwCl (cxT z) s) (hP : va_P z.1 vwCl (xW z r σ) H) (hl : Cond.fieldLink own index RX10 "state" "LGuardCore$State;" ∈ tbG) (hdg : decode cc pc = .ok (.getfield index, 3)) (kk : W p l e R s m args below meth c H locs 0 0 Q (F0 m (pc + 3) ls (.ref (r 3) :: rest))) : W p l e R s m args below meth c H locs 0 0 Q (F0 m pc ls (.ref (r 5) :: rest)) :=
  va_get (ci := 9) (C := RX10) (T := TX10) (N := 2) S.1 S.2.1 S.2.2.2.2 tw_X10 S.2.2.2.1 hK hP 5 rfl rfl 1 (by decide) (S.2.2.2.2 _ hl) (fun _ h9 => h9) rfl hdg kk
theorem fg_X6_memory {σ : XS} (S : CallFix p m c cc nL s args tbG own) (hK : va_K z.1 vwCl (cxT z) s) (hP : va_P z.1 vwCl (xW z r σ) H) (hl : Cond.fieldLink own index RX6 "memory" "LGuardCore$Memory;" ∈ tbG) (hdg : decode cc pc = .ok (.getfield index, 3)) (kk : W p l e R s m args below meth c H locs 0 0 Q (F0 m (pc + 3) ls (.ref (r 1) :: rest))) : W p l e R s m args below meth c H locs 0 0 Q (F0 m pc ls (.ref (r 6) :: rest)) :=
  va_get (ci := 5) (C := RX6) (T := TX6) (N := 9) S.1 S.2.1 S.2.2.2.2 tw_X6 S.2.2.2.1 hK hP 6 rfl rfl 0 (by decide) (S.2.2.2.2 _ hl) (fun _ h9 => h9) rfl hdg kk
theorem fg_X6_state {σ : XS} (S : CallFix p m c cc nL s args tbG own) (hK : va_K z.1 vwCl (cxT z) s) (hP : va_P z.1 vwCl (xW z r σ) H) (hl : Cond.fieldLink own index RX6 "state" "LGuardCore$State;" ∈ tbG) (hdg : decode cc pc = .ok (.getfield index, 3)) (kk : W p l e R s m args below meth c H locs 0 0 Q (F0 m (pc + 3) ls (.ref (r 3) :: rest))) : W p l e R s m args below meth c H locs 0 0 Q (F0 m pc ls (.ref (r 6) :: rest)) :=
  va_get (ci := 5) (C := RX6) (T := TX6) (N := 9) S.1 S.2.1 S.2.2.2.2 tw_X6 S.2.2.2.1 hK hP 6 rfl rfl 1 (by decide) (S.2.2.2.2 _ hl) (fun _ h9 => h9) rfl hdg kk
theorem fg_X6_walk {σ : XS} (S : CallFix p m c cc nL s args tbG own) (hK : va_K z.1 vwCl (cxT z) s) (hP : va_P z.1 vwCl (xW z r σ) H) (hl : Cond.fieldLink own index RX6 "walk" "LGuardCore$Walk;" ∈ tbG) (hdg : decode cc pc = .ok (.getfield index, 3)) (kk : W p l e R s m args below meth c H locs 0 0 Q (F0 m (pc + 3) ls (.ref (r 5) :: rest))) : W p l e R s m args below meth c H locs 0 0 Q (F0 m pc ls (.ref (r 6) :: rest)) :=
  va_get (ci := 5) (C := RX6) (T := TX6) (N := 9) S.1 S.2.1 S.2.2.2.2 tw_X6 S.2.2.2.1 hK hP 6 rfl rfl 2 (by decide) (S.2.2.2.2 _ hl) (fun _ h9 => h9) rfl hdg kk
theorem fg_X6_numbers {σ : XS} (S : CallFix p m c cc nL s args tbG own) (hK : va_K z.1 vwCl (cxT z) s) (hP : va_P z.1 vwCl (xW z r σ) H) (hl : Cond.fieldLink own index RX6 "numbers" "LGuardCore$Numbers;" ∈ tbG) (hdg : decode cc pc = .ok (.getfield index, 3)) (kk : W p l e R s m args below meth c H locs 0 0 Q (F0 m (pc + 3) ls (.ref (r 8) :: rest))) : W p l e R s m args below meth c H locs 0 0 Q (F0 m pc ls (.ref (r 6) :: rest)) :=
  va_get (ci := 5) (C := RX6) (T := TX6) (N := 9) S.1 S.2.1 S.2.2.2.2 tw_X6 S.2.2.2.1 hK hP 6 rfl rfl 3 (by decide) (S.2.2.2.2 _ hl) (fun _ h9 => h9) rfl hdg kk
theorem fg_X6_registers {σ : XS} (S : CallFix p m c cc nL s args tbG own) (hK : va_K z.1 vwCl (cxT z) s) (hP : va_P z.1 vwCl (xW z r σ) H) (hl : Cond.fieldLink own index RX6 "registers" "LGuardCore$Registers;" ∈ tbG) (hdg : decode cc pc = .ok (.getfield index, 3)) (kk : W p l e R s m args below meth c H locs 0 0 Q (F0 m (pc + 3) ls (.ref (r 9) :: rest))) : W p l e R s m args below meth c H locs 0 0 Q (F0 m pc ls (.ref (r 6) :: rest)) :=
  va_get (ci := 5) (C := RX6) (T := TX6) (N := 9) S.1 S.2.1 S.2.2.2.2 tw_X6 S.2.2.2.1 hK hP 6 rfl rfl 4 (by decide) (S.2.2.2.2 _ hl) (fun _ h9 => h9) rfl hdg kk
theorem fg_X6_accesses {σ : XS} (S : CallFix p m c cc nL s args tbG own) (hK : va_K z.1 vwCl (cxT z) s) (hP : va_P z.1 vwCl (xW z r σ) H) (hl : Cond.fieldLink own index RX6 "accesses" "LGuardCore$Accesses;" ∈ tbG) (hdg : decode cc pc = .ok (.getfield index, 3)) (kk : W p l e R s m args below meth c H locs 0 0 Q (F0 m (pc + 3) ls (.ref (r 10) :: rest))) : W p l e R s m args below meth c H locs 0 0 Q (F0 m pc ls (.ref (r 6) :: rest)) :=
  va_get (ci := 5) (C := RX6) (T := TX6) (N := 9) S.1 S.2.1 S.2.2.2.2 tw_X6 S.2.2.2.1 hK hP 6 rfl rfl 5 (by decide) (S.2.2.2.2 _ hl) (fun _ h9 => h9) rfl hdg kk
theorem fg_X6_branches {σ : XS} (S : CallFix p m c cc nL s args tbG own) (hK : va_K z.1 vwCl (cxT z) s) (hP : va_P z.1 vwCl (xW z r σ) H) (hl : Cond.fieldLink own index RX6 "branches" "LGuardCore$Branches;" ∈ tbG) (hdg : decode cc pc = .ok (.getfield index, 3)) (kk : W p l e R s m args below meth c H locs 0 0 Q (F0 m (pc + 3) ls (.ref (r 11) :: rest))) : W p l e R s m args below meth c H locs 0 0 Q (F0 m pc ls (.ref (r 6) :: rest)) :=
  va_get (ci := 5) (C := RX6) (T := TX6) (N := 9) S.1 S.2.1 S.2.2.2.2 tw_X6 S.2.2.2.1 hK hP 6 rfl rfl 6 (by decide) (S.2.2.2.2 _ hl) (fun _ h9 => h9) rfl hdg kk
theorem fg_X6_control {σ : XS} (S : CallFix p m c cc nL s args tbG own) (hK : va_K z.1 vwCl (cxT z) s) (hP : va_P z.1 vwCl (xW z r σ) H) (hl : Cond.fieldLink own index RX6 "control" "LGuardCore$Control;" ∈ tbG) (hdg : decode cc pc = .ok (.getfield index, 3)) (kk : W p l e R s m args below meth c H locs 0 0 Q (F0 m (pc + 3) ls (.ref (r 12) :: rest))) : W p l e R s m args below meth c H locs 0 0 Q (F0 m pc ls (.ref (r 6) :: rest)) :=
  va_get (ci := 5) (C := RX6) (T := TX6) (N := 9) S.1 S.2.1 S.2.2.2.2 tw_X6 S.2.2.2.1 hK hP 6 rfl rfl 7 (by decide) (S.2.2.2.2 _ hl) (fun _ h9 => h9) rfl hdg kk
theorem fg_X6_word {σ : XS} (S : CallFix p m c cc nL s args tbG own) (hK : va_K z.1 vwCl (cxT z) s) (hP : va_P z.1 vwCl (xW z r σ) H) (hl : Cond.fieldLink own index RX6 "word" "I" ∈ tbG) (hdg : decode cc pc = .ok (.getfield index, 3)) (kk : W p l e R s m args below meth c H locs 0 0 Q (F0 m (pc + 3) ls (.int (xO σ) :: rest))) : W p l e R s m args below meth c H locs 0 0 Q (F0 m pc ls (.ref (r 6) :: rest)) :=
  va_get (ci := 5) (C := RX6) (T := TX6) (N := 9) S.1 S.2.1 S.2.2.2.2 tw_X6 S.2.2.2.1 hK hP 6 rfl rfl 8 (by decide) (S.2.2.2.2 _ hl) (fun _ h9 => h9) rfl hdg kk
theorem fp_X6_word {σ : XS} {v : Int32} (S : CallFix p m c cc nL s args tbG own) (hK : va_K z.1 vwCl (cxT z) s) (hP : va_P z.1 vwCl (xW z r σ) H) (hD : va_D A (xW z r σ)) (hS : va_S A s.heap H locs) (hl : Cond.fieldLink own index RX6 "word" "I" ∈ tbG) (hdg : decode cc pc = .ok (.putfield index, 3)) (kk : ∀ (H : Heap) (locs : List Loc), va_P z.1 vwCl (xW z r (xuO σ v)) H → va_D A (xW z r (xuO σ v)) → va_S A s.heap H locs → W p l e R s m args below meth c H locs 0 0 Q (F0 m (pc + 3) ls rest)) : W p l e R s m args below meth c H locs 0 0 Q (F0 m pc ls (.int v :: .ref (r 6) :: rest)) :=
  va_put (ci := 5) (ty := .int) (C := RX6) (T := TX6) (N := 9) S.1 S.2.1 S.2.2.2.2 tw_X6 tyX6 tyX6_ok nmX6 S.2.2.2.1 hK hP hD hS 6 rfl rfl 8 (by decide) (S.2.2.2.2 _ hl) (fun _ h9 => h9) rfl (by decide +kernel) rfl rfl (Nat.le_of_ble_eq_true rfl) hdg (fun H locs hP hD hS => kk H locs hP hD hS)
theorem fg_X9_state {σ : XS} (S : CallFix p m c cc nL s args tbG own) (hK : va_K z.1 vwCl (cxT z) s) (hP : va_P z.1 vwCl (xW z r σ) H) (hl : Cond.fieldLink own index RX9 "state" "LGuardCore$State;" ∈ tbG) (hdg : decode cc pc = .ok (.getfield index, 3)) (kk : W p l e R s m args below meth c H locs 0 0 Q (F0 m (pc + 3) ls (.ref (r 3) :: rest))) : W p l e R s m args below meth c H locs 0 0 Q (F0 m pc ls (.ref (r 7) :: rest)) :=
  va_get (ci := 8) (C := RX9) (T := TX9) (N := 1) S.1 S.2.1 S.2.2.2.2 tw_X9 S.2.2.2.1 hK hP 7 rfl rfl 0 (by decide) (S.2.2.2.2 _ hl) (fun _ h9 => h9) rfl hdg kk
theorem fg_X5_state {σ : XS} (S : CallFix p m c cc nL s args tbG own) (hK : va_K z.1 vwCl (cxT z) s) (hP : va_P z.1 vwCl (xW z r σ) H) (hl : Cond.fieldLink own index RX5 "state" "LGuardCore$State;" ∈ tbG) (hdg : decode cc pc = .ok (.getfield index, 3)) (kk : W p l e R s m args below meth c H locs 0 0 Q (F0 m (pc + 3) ls (.ref (r 3) :: rest))) : W p l e R s m args below meth c H locs 0 0 Q (F0 m pc ls (.ref (r 8) :: rest)) :=
  va_get (ci := 4) (C := RX5) (T := TX5) (N := 2) S.1 S.2.1 S.2.2.2.2 tw_X5 S.2.2.2.1 hK hP 8 rfl rfl 0 (by decide) (S.2.2.2.2 _ hl) (fun _ h9 => h9) rfl hdg kk
theorem fg_X5_sums {σ : XS} (S : CallFix p m c cc nL s args tbG own) (hK : va_K z.1 vwCl (cxT z) s) (hP : va_P z.1 vwCl (xW z r σ) H) (hl : Cond.fieldLink own index RX5 "sums" "LGuardCore$Sums;" ∈ tbG) (hdg : decode cc pc = .ok (.getfield index, 3)) (kk : W p l e R s m args below meth c H locs 0 0 Q (F0 m (pc + 3) ls (.ref (r 7) :: rest))) : W p l e R s m args below meth c H locs 0 0 Q (F0 m pc ls (.ref (r 8) :: rest)) :=
  va_get (ci := 4) (C := RX5) (T := TX5) (N := 2) S.1 S.2.1 S.2.2.2.2 tw_X5 S.2.2.2.1 hK hP 8 rfl rfl 1 (by decide) (S.2.2.2.2 _ hl) (fun _ h9 => h9) rfl hdg kk
theorem fg_X7_state {σ : XS} (S : CallFix p m c cc nL s args tbG own) (hK : va_K z.1 vwCl (cxT z) s) (hP : va_P z.1 vwCl (xW z r σ) H) (hl : Cond.fieldLink own index RX7 "state" "LGuardCore$State;" ∈ tbG) (hdg : decode cc pc = .ok (.getfield index, 3)) (kk : W p l e R s m args below meth c H locs 0 0 Q (F0 m (pc + 3) ls (.ref (r 3) :: rest))) : W p l e R s m args below meth c H locs 0 0 Q (F0 m pc ls (.ref (r 9) :: rest)) :=
  va_get (ci := 6) (C := RX7) (T := TX7) (N := 2) S.1 S.2.1 S.2.2.2.2 tw_X7 S.2.2.2.1 hK hP 9 rfl rfl 0 (by decide) (S.2.2.2.2 _ hl) (fun _ h9 => h9) rfl hdg kk
theorem fg_X7_sums {σ : XS} (S : CallFix p m c cc nL s args tbG own) (hK : va_K z.1 vwCl (cxT z) s) (hP : va_P z.1 vwCl (xW z r σ) H) (hl : Cond.fieldLink own index RX7 "sums" "LGuardCore$Sums;" ∈ tbG) (hdg : decode cc pc = .ok (.getfield index, 3)) (kk : W p l e R s m args below meth c H locs 0 0 Q (F0 m (pc + 3) ls (.ref (r 7) :: rest))) : W p l e R s m args below meth c H locs 0 0 Q (F0 m pc ls (.ref (r 9) :: rest)) :=
  va_get (ci := 6) (C := RX7) (T := TX7) (N := 2) S.1 S.2.1 S.2.2.2.2 tw_X7 S.2.2.2.1 hK hP 9 rfl rfl 1 (by decide) (S.2.2.2.2 _ hl) (fun _ h9 => h9) rfl hdg kk
theorem fg_X0_memory {σ : XS} (S : CallFix p m c cc nL s args tbG own) (hK : va_K z.1 vwCl (cxT z) s) (hP : va_P z.1 vwCl (xW z r σ) H) (hl : Cond.fieldLink own index RX0 "memory" "LGuardCore$Memory;" ∈ tbG) (hdg : decode cc pc = .ok (.getfield index, 3)) (kk : W p l e R s m args below meth c H locs 0 0 Q (F0 m (pc + 3) ls (.ref (r 1) :: rest))) : W p l e R s m args below meth c H locs 0 0 Q (F0 m pc ls (.ref (r 10) :: rest)) :=
  va_get (ci := 0) (C := RX0) (T := TX0) (N := 3) S.1 S.2.1 S.2.2.2.2 tw_X0 S.2.2.2.1 hK hP 10 rfl rfl 0 (by decide) (S.2.2.2.2 _ hl) (fun _ h9 => h9) rfl hdg kk
theorem fg_X0_state {σ : XS} (S : CallFix p m c cc nL s args tbG own) (hK : va_K z.1 vwCl (cxT z) s) (hP : va_P z.1 vwCl (xW z r σ) H) (hl : Cond.fieldLink own index RX0 "state" "LGuardCore$State;" ∈ tbG) (hdg : decode cc pc = .ok (.getfield index, 3)) (kk : W p l e R s m args below meth c H locs 0 0 Q (F0 m (pc + 3) ls (.ref (r 3) :: rest))) : W p l e R s m args below meth c H locs 0 0 Q (F0 m pc ls (.ref (r 10) :: rest)) :=
  va_get (ci := 0) (C := RX0) (T := TX0) (N := 3) S.1 S.2.1 S.2.2.2.2 tw_X0 S.2.2.2.1 hK hP 10 rfl rfl 1 (by decide) (S.2.2.2.2 _ hl) (fun _ h9 => h9) rfl hdg kk
theorem fg_X0_walk {σ : XS} (S : CallFix p m c cc nL s args tbG own) (hK : va_K z.1 vwCl (cxT z) s) (hP : va_P z.1 vwCl (xW z r σ) H) (hl : Cond.fieldLink own index RX0 "walk" "LGuardCore$Walk;" ∈ tbG) (hdg : decode cc pc = .ok (.getfield index, 3)) (kk : W p l e R s m args below meth c H locs 0 0 Q (F0 m (pc + 3) ls (.ref (r 5) :: rest))) : W p l e R s m args below meth c H locs 0 0 Q (F0 m pc ls (.ref (r 10) :: rest)) :=
  va_get (ci := 0) (C := RX0) (T := TX0) (N := 3) S.1 S.2.1 S.2.2.2.2 tw_X0 S.2.2.2.1 hK hP 10 rfl rfl 2 (by decide) (S.2.2.2.2 _ hl) (fun _ h9 => h9) rfl hdg kk
theorem fg_X2_state {σ : XS} (S : CallFix p m c cc nL s args tbG own) (hK : va_K z.1 vwCl (cxT z) s) (hP : va_P z.1 vwCl (xW z r σ) H) (hl : Cond.fieldLink own index RX2 "state" "LGuardCore$State;" ∈ tbG) (hdg : decode cc pc = .ok (.getfield index, 3)) (kk : W p l e R s m args below meth c H locs 0 0 Q (F0 m (pc + 3) ls (.ref (r 3) :: rest))) : W p l e R s m args below meth c H locs 0 0 Q (F0 m pc ls (.ref (r 11) :: rest)) :=
  va_get (ci := 1) (C := RX2) (T := TX2) (N := 1) S.1 S.2.1 S.2.2.2.2 tw_X2 S.2.2.2.1 hK hP 11 rfl rfl 0 (by decide) (S.2.2.2.2 _ hl) (fun _ h9 => h9) rfl hdg kk
theorem fg_X3_state {σ : XS} (S : CallFix p m c cc nL s args tbG own) (hK : va_K z.1 vwCl (cxT z) s) (hP : va_P z.1 vwCl (xW z r σ) H) (hl : Cond.fieldLink own index RX3 "state" "LGuardCore$State;" ∈ tbG) (hdg : decode cc pc = .ok (.getfield index, 3)) (kk : W p l e R s m args below meth c H locs 0 0 Q (F0 m (pc + 3) ls (.ref (r 3) :: rest))) : W p l e R s m args below meth c H locs 0 0 Q (F0 m pc ls (.ref (r 12) :: rest)) :=
  va_get (ci := 2) (C := RX3) (T := TX3) (N := 1) S.1 S.2.1 S.2.2.2.2 tw_X3 S.2.2.2.1 hK hP 12 rfl rfl 0 (by decide) (S.2.2.2.2 _ hl) (fun _ h9 => h9) rfl hdg kk
theorem fg_X12_thrownCode {σ : MS} (S : CallFix p m c cc nL s args tbG own) (hK : va_K z.1 vwCl (cxT z) s) (hP : va_P z.1 vwCl (mW z r σ) H) (hl : Cond.fieldLink own index RX12 "thrownCode" "I" ∈ tbG) (hdg : decode cc pc = .ok (.getfield index, 3)) (kk : W p l e R s m args below meth c H locs 0 0 Q (F0 m (pc + 3) ls (.int (m_thrownCode σ) :: rest))) : W p l e R s m args below meth c H locs 0 0 Q (F0 m pc ls (.ref (r 0) :: rest)) :=
  va_get (ci := 11) (C := RX12) (T := TX12) (N := 16) S.1 S.2.1 S.2.2.2.2 tw_X12 S.2.2.2.1 hK hP 0 rfl rfl 0 (by decide) (S.2.2.2.2 _ hl) (fun _ h9 => h9) rfl hdg kk
theorem fp_X12_thrownCode {σ : MS} {v : Int32} (S : CallFix p m c cc nL s args tbG own) (hK : va_K z.1 vwCl (cxT z) s) (hP : va_P z.1 vwCl (mW z r σ) H) (hD : va_D A (mW z r σ)) (hS : va_S A s.heap H locs) (hl : Cond.fieldLink own index RX12 "thrownCode" "I" ∈ tbG) (hdg : decode cc pc = .ok (.putfield index, 3)) (kk : ∀ (H : Heap) (locs : List Loc), va_P z.1 vwCl (mW z r (mu_thrownCode σ v)) H → va_D A (mW z r (mu_thrownCode σ v)) → va_S A s.heap H locs → W p l e R s m args below meth c H locs 0 0 Q (F0 m (pc + 3) ls rest)) : W p l e R s m args below meth c H locs 0 0 Q (F0 m pc ls (.int v :: .ref (r 0) :: rest)) :=
  va_put (ci := 11) (ty := .int) (C := RX12) (T := TX12) (N := 16) S.1 S.2.1 S.2.2.2.2 tw_X12 tyX12 tyX12_ok nmX12 S.2.2.2.1 hK hP hD hS 0 rfl rfl 0 (by decide) (S.2.2.2.2 _ hl) (fun _ h9 => h9) rfl (by decide +kernel) rfl rfl (Nat.le_of_ble_eq_true rfl) hdg (fun H locs hP hD hS => kk H locs hP hD hS)
theorem fg_X12_mem {σ : MS} (S : CallFix p m c cc nL s args tbG own) (hK : va_K z.1 vwCl (cxT z) s) (hP : va_P z.1 vwCl (mW z r σ) H) (hl : Cond.fieldLink own index RX12 "mem" "[I" ∈ tbG) (hdg : decode cc pc = .ok (.getfield index, 3)) (kk : W p l e R s m args below meth c H locs 0 0 Q (F0 m (pc + 3) ls (.ref (r 1) :: rest))) : W p l e R s m args below meth c H locs 0 0 Q (F0 m pc ls (.ref (r 0) :: rest)) :=
  va_get (ci := 11) (C := RX12) (T := TX12) (N := 16) S.1 S.2.1 S.2.2.2.2 tw_X12 S.2.2.2.1 hK hP 0 rfl rfl 1 (by decide) (S.2.2.2.2 _ hl) (fun _ h9 => h9) rfl hdg kk
theorem fg_X12_x {σ : MS} (S : CallFix p m c cc nL s args tbG own) (hK : va_K z.1 vwCl (cxT z) s) (hP : va_P z.1 vwCl (mW z r σ) H) (hl : Cond.fieldLink own index RX12 "x" "[J" ∈ tbG) (hdg : decode cc pc = .ok (.getfield index, 3)) (kk : W p l e R s m args below meth c H locs 0 0 Q (F0 m (pc + 3) ls (.ref (r 2) :: rest))) : W p l e R s m args below meth c H locs 0 0 Q (F0 m pc ls (.ref (r 0) :: rest)) :=
  va_get (ci := 11) (C := RX12) (T := TX12) (N := 16) S.1 S.2.1 S.2.2.2.2 tw_X12 S.2.2.2.1 hK hP 0 rfl rfl 2 (by decide) (S.2.2.2.2 _ hl) (fun _ h9 => h9) rfl hdg kk
theorem fg_X12_state {σ : MS} (S : CallFix p m c cc nL s args tbG own) (hK : va_K z.1 vwCl (cxT z) s) (hP : va_P z.1 vwCl (mW z r σ) H) (hl : Cond.fieldLink own index RX12 "state" "[J" ∈ tbG) (hdg : decode cc pc = .ok (.getfield index, 3)) (kk : W p l e R s m args below meth c H locs 0 0 Q (F0 m (pc + 3) ls (.ref (r 3) :: rest))) : W p l e R s m args below meth c H locs 0 0 Q (F0 m pc ls (.ref (r 0) :: rest)) :=
  va_get (ci := 11) (C := RX12) (T := TX12) (N := 16) S.1 S.2.1 S.2.2.2.2 tw_X12 S.2.2.2.1 hK hP 0 rfl rfl 3 (by decide) (S.2.2.2.2 _ hl) (fun _ h9 => h9) rfl hdg kk
theorem fg_X12_flags {σ : MS} (S : CallFix p m c cc nL s args tbG own) (hK : va_K z.1 vwCl (cxT z) s) (hP : va_P z.1 vwCl (mW z r σ) H) (hl : Cond.fieldLink own index RX12 "flags" "I" ∈ tbG) (hdg : decode cc pc = .ok (.getfield index, 3)) (kk : W p l e R s m args below meth c H locs 0 0 Q (F0 m (pc + 3) ls (.int (m_flags σ) :: rest))) : W p l e R s m args below meth c H locs 0 0 Q (F0 m pc ls (.ref (r 0) :: rest)) :=
  va_get (ci := 11) (C := RX12) (T := TX12) (N := 16) S.1 S.2.1 S.2.2.2.2 tw_X12 S.2.2.2.1 hK hP 0 rfl rfl 4 (by decide) (S.2.2.2.2 _ hl) (fun _ h9 => h9) rfl hdg kk
theorem fp_X12_flags {σ : MS} {v : Int32} (S : CallFix p m c cc nL s args tbG own) (hK : va_K z.1 vwCl (cxT z) s) (hP : va_P z.1 vwCl (mW z r σ) H) (hD : va_D A (mW z r σ)) (hS : va_S A s.heap H locs) (hl : Cond.fieldLink own index RX12 "flags" "I" ∈ tbG) (hdg : decode cc pc = .ok (.putfield index, 3)) (kk : ∀ (H : Heap) (locs : List Loc), va_P z.1 vwCl (mW z r (mu_flags σ v)) H → va_D A (mW z r (mu_flags σ v)) → va_S A s.heap H locs → W p l e R s m args below meth c H locs 0 0 Q (F0 m (pc + 3) ls rest)) : W p l e R s m args below meth c H locs 0 0 Q (F0 m pc ls (.int v :: .ref (r 0) :: rest)) :=
  va_put (ci := 11) (ty := .int) (C := RX12) (T := TX12) (N := 16) S.1 S.2.1 S.2.2.2.2 tw_X12 tyX12 tyX12_ok nmX12 S.2.2.2.1 hK hP hD hS 0 rfl rfl 4 (by decide) (S.2.2.2.2 _ hl) (fun _ h9 => h9) rfl (by decide +kernel) rfl rfl (Nat.le_of_ble_eq_true rfl) hdg (fun H locs hP hD hS => kk H locs hP hD hS)
theorem fg_X12_level {σ : MS} (S : CallFix p m c cc nL s args tbG own) (hK : va_K z.1 vwCl (cxT z) s) (hP : va_P z.1 vwCl (mW z r σ) H) (hl : Cond.fieldLink own index RX12 "level" "I" ∈ tbG) (hdg : decode cc pc = .ok (.getfield index, 3)) (kk : W p l e R s m args below meth c H locs 0 0 Q (F0 m (pc + 3) ls (.int (m_level σ) :: rest))) : W p l e R s m args below meth c H locs 0 0 Q (F0 m pc ls (.ref (r 0) :: rest)) :=
  va_get (ci := 11) (C := RX12) (T := TX12) (N := 16) S.1 S.2.1 S.2.2.2.2 tw_X12 S.2.2.2.1 hK hP 0 rfl rfl 5 (by decide) (S.2.2.2.2 _ hl) (fun _ h9 => h9) rfl hdg kk
theorem fp_X12_level {σ : MS} {v : Int32} (S : CallFix p m c cc nL s args tbG own) (hK : va_K z.1 vwCl (cxT z) s) (hP : va_P z.1 vwCl (mW z r σ) H) (hD : va_D A (mW z r σ)) (hS : va_S A s.heap H locs) (hl : Cond.fieldLink own index RX12 "level" "I" ∈ tbG) (hdg : decode cc pc = .ok (.putfield index, 3)) (kk : ∀ (H : Heap) (locs : List Loc), va_P z.1 vwCl (mW z r (mu_level σ v)) H → va_D A (mW z r (mu_level σ v)) → va_S A s.heap H locs → W p l e R s m args below meth c H locs 0 0 Q (F0 m (pc + 3) ls rest)) : W p l e R s m args below meth c H locs 0 0 Q (F0 m pc ls (.int v :: .ref (r 0) :: rest)) :=
  va_put (ci := 11) (ty := .int) (C := RX12) (T := TX12) (N := 16) S.1 S.2.1 S.2.2.2.2 tw_X12 tyX12 tyX12_ok nmX12 S.2.2.2.1 hK hP hD hS 0 rfl rfl 5 (by decide) (S.2.2.2.2 _ hl) (fun _ h9 => h9) rfl (by decide +kernel) rfl rfl (Nat.le_of_ble_eq_true rfl) hdg (fun H locs hP hD hS => kk H locs hP hD hS)
theorem fg_X12_select {σ : MS} (S : CallFix p m c cc nL s args tbG own) (hK : va_K z.1 vwCl (cxT z) s) (hP : va_P z.1 vwCl (mW z r σ) H) (hl : Cond.fieldLink own index RX12 "select" "I" ∈ tbG) (hdg : decode cc pc = .ok (.getfield index, 3)) (kk : W p l e R s m args below meth c H locs 0 0 Q (F0 m (pc + 3) ls (.int (m_select σ) :: rest))) : W p l e R s m args below meth c H locs 0 0 Q (F0 m pc ls (.ref (r 0) :: rest)) :=
  va_get (ci := 11) (C := RX12) (T := TX12) (N := 16) S.1 S.2.1 S.2.2.2.2 tw_X12 S.2.2.2.1 hK hP 0 rfl rfl 6 (by decide) (S.2.2.2.2 _ hl) (fun _ h9 => h9) rfl hdg kk
theorem fp_X12_select {σ : MS} {v : Int32} (S : CallFix p m c cc nL s args tbG own) (hK : va_K z.1 vwCl (cxT z) s) (hP : va_P z.1 vwCl (mW z r σ) H) (hD : va_D A (mW z r σ)) (hS : va_S A s.heap H locs) (hl : Cond.fieldLink own index RX12 "select" "I" ∈ tbG) (hdg : decode cc pc = .ok (.putfield index, 3)) (kk : ∀ (H : Heap) (locs : List Loc), va_P z.1 vwCl (mW z r (mu_select σ v)) H → va_D A (mW z r (mu_select σ v)) → va_S A s.heap H locs → W p l e R s m args below meth c H locs 0 0 Q (F0 m (pc + 3) ls rest)) : W p l e R s m args below meth c H locs 0 0 Q (F0 m pc ls (.int v :: .ref (r 0) :: rest)) :=
  va_put (ci := 11) (ty := .int) (C := RX12) (T := TX12) (N := 16) S.1 S.2.1 S.2.2.2.2 tw_X12 tyX12 tyX12_ok nmX12 S.2.2.2.1 hK hP hD hS 0 rfl rfl 6 (by decide) (S.2.2.2.2 _ hl) (fun _ h9 => h9) rfl (by decide +kernel) rfl rfl (Nat.le_of_ble_eq_true rfl) hdg (fun H locs hP hD hS => kk H locs hP hD hS)
theorem fg_X12_masked {σ : MS} (S : CallFix p m c cc nL s args tbG own) (hK : va_K z.1 vwCl (cxT z) s) (hP : va_P z.1 vwCl (mW z r σ) H) (hl : Cond.fieldLink own index RX12 "masked" "I" ∈ tbG) (hdg : decode cc pc = .ok (.getfield index, 3)) (kk : W p l e R s m args below meth c H locs 0 0 Q (F0 m (pc + 3) ls (.int (m_masked σ) :: rest))) : W p l e R s m args below meth c H locs 0 0 Q (F0 m pc ls (.ref (r 0) :: rest)) :=
  va_get (ci := 11) (C := RX12) (T := TX12) (N := 16) S.1 S.2.1 S.2.2.2.2 tw_X12 S.2.2.2.1 hK hP 0 rfl rfl 7 (by decide) (S.2.2.2.2 _ hl) (fun _ h9 => h9) rfl hdg kk
theorem fp_X12_masked {σ : MS} {v : Int32} (S : CallFix p m c cc nL s args tbG own) (hK : va_K z.1 vwCl (cxT z) s) (hP : va_P z.1 vwCl (mW z r σ) H) (hD : va_D A (mW z r σ)) (hS : va_S A s.heap H locs) (hl : Cond.fieldLink own index RX12 "masked" "I" ∈ tbG) (hdg : decode cc pc = .ok (.putfield index, 3)) (kk : ∀ (H : Heap) (locs : List Loc), va_P z.1 vwCl (mW z r (mu_masked σ v)) H → va_D A (mW z r (mu_masked σ v)) → va_S A s.heap H locs → W p l e R s m args below meth c H locs 0 0 Q (F0 m (pc + 3) ls rest)) : W p l e R s m args below meth c H locs 0 0 Q (F0 m pc ls (.int v :: .ref (r 0) :: rest)) :=
  va_put (ci := 11) (ty := .int) (C := RX12) (T := TX12) (N := 16) S.1 S.2.1 S.2.2.2.2 tw_X12 tyX12 tyX12_ok nmX12 S.2.2.2.1 hK hP hD hS 0 rfl rfl 7 (by decide) (S.2.2.2.2 _ hl) (fun _ h9 => h9) rfl (by decide +kernel) rfl rfl (Nat.le_of_ble_eq_true rfl) hdg (fun H locs hP hD hS => kk H locs hP hD hS)
theorem fg_X12_calls {σ : MS} (S : CallFix p m c cc nL s args tbG own) (hK : va_K z.1 vwCl (cxT z) s) (hP : va_P z.1 vwCl (mW z r σ) H) (hl : Cond.fieldLink own index RX12 "calls" "Z" ∈ tbG) (hdg : decode cc pc = .ok (.getfield index, 3)) (kk : W p l e R s m args below meth c H locs 0 0 Q (F0 m (pc + 3) ls (.int (zB (m_calls σ)) :: rest))) : W p l e R s m args below meth c H locs 0 0 Q (F0 m pc ls (.ref (r 0) :: rest)) :=
  va_get (ci := 11) (C := RX12) (T := TX12) (N := 16) S.1 S.2.1 S.2.2.2.2 tw_X12 S.2.2.2.1 hK hP 0 rfl rfl 8 (by decide) (S.2.2.2.2 _ hl) (fun _ h9 => h9) rfl hdg kk
theorem fp_X12_calls {σ : MS} {v : Bool} (S : CallFix p m c cc nL s args tbG own) (hK : va_K z.1 vwCl (cxT z) s) (hP : va_P z.1 vwCl (mW z r σ) H) (hD : va_D A (mW z r σ)) (hS : va_S A s.heap H locs) (hl : Cond.fieldLink own index RX12 "calls" "Z" ∈ tbG) (hdg : decode cc pc = .ok (.putfield index, 3)) (kk : ∀ (H : Heap) (locs : List Loc), va_P z.1 vwCl (mW z r (mu_calls σ v)) H → va_D A (mW z r (mu_calls σ v)) → va_S A s.heap H locs → W p l e R s m args below meth c H locs 0 0 Q (F0 m (pc + 3) ls rest)) : W p l e R s m args below meth c H locs 0 0 Q (F0 m pc ls (.int (zB v) :: .ref (r 0) :: rest)) :=
  va_put (ci := 11) (ty := .boolean) (C := RX12) (T := TX12) (N := 16) S.1 S.2.1 S.2.2.2.2 tw_X12 tyX12 tyX12_ok nmX12 S.2.2.2.1 hK hP hD hS 0 rfl rfl 8 (by decide) (S.2.2.2.2 _ hl) (fun _ h9 => h9) rfl (by decide +kernel) (zB_nar v) (zB_fit v) (Nat.le_of_ble_eq_true rfl) hdg (fun H locs hP hD hS => kk H locs hP hD hS)
theorem fg_X12_faultWhat {σ : MS} (S : CallFix p m c cc nL s args tbG own) (hK : va_K z.1 vwCl (cxT z) s) (hP : va_P z.1 vwCl (mW z r σ) H) (hl : Cond.fieldLink own index RX12 "faultWhat" "I" ∈ tbG) (hdg : decode cc pc = .ok (.getfield index, 3)) (kk : W p l e R s m args below meth c H locs 0 0 Q (F0 m (pc + 3) ls (.int (m_faultWhat σ) :: rest))) : W p l e R s m args below meth c H locs 0 0 Q (F0 m pc ls (.ref (r 0) :: rest)) :=
  va_get (ci := 11) (C := RX12) (T := TX12) (N := 16) S.1 S.2.1 S.2.2.2.2 tw_X12 S.2.2.2.1 hK hP 0 rfl rfl 9 (by decide) (S.2.2.2.2 _ hl) (fun _ h9 => h9) rfl hdg kk
theorem fp_X12_faultWhat {σ : MS} {v : Int32} (S : CallFix p m c cc nL s args tbG own) (hK : va_K z.1 vwCl (cxT z) s) (hP : va_P z.1 vwCl (mW z r σ) H) (hD : va_D A (mW z r σ)) (hS : va_S A s.heap H locs) (hl : Cond.fieldLink own index RX12 "faultWhat" "I" ∈ tbG) (hdg : decode cc pc = .ok (.putfield index, 3)) (kk : ∀ (H : Heap) (locs : List Loc), va_P z.1 vwCl (mW z r (mu_faultWhat σ v)) H → va_D A (mW z r (mu_faultWhat σ v)) → va_S A s.heap H locs → W p l e R s m args below meth c H locs 0 0 Q (F0 m (pc + 3) ls rest)) : W p l e R s m args below meth c H locs 0 0 Q (F0 m pc ls (.int v :: .ref (r 0) :: rest)) :=
  va_put (ci := 11) (ty := .int) (C := RX12) (T := TX12) (N := 16) S.1 S.2.1 S.2.2.2.2 tw_X12 tyX12 tyX12_ok nmX12 S.2.2.2.1 hK hP hD hS 0 rfl rfl 9 (by decide) (S.2.2.2.2 _ hl) (fun _ h9 => h9) rfl (by decide +kernel) rfl rfl (Nat.le_of_ble_eq_true rfl) hdg (fun H locs hP hD hS => kk H locs hP hD hS)
theorem fg_X12_place {σ : MS} (S : CallFix p m c cc nL s args tbG own) (hK : va_K z.1 vwCl (cxT z) s) (hP : va_P z.1 vwCl (mW z r σ) H) (hl : Cond.fieldLink own index RX12 "place" "J" ∈ tbG) (hdg : decode cc pc = .ok (.getfield index, 3)) (kk : W p l e R s m args below meth c H locs 0 0 Q (F0 m (pc + 3) ls (.long (m_place σ) :: rest))) : W p l e R s m args below meth c H locs 0 0 Q (F0 m pc ls (.ref (r 0) :: rest)) :=
  va_get (ci := 11) (C := RX12) (T := TX12) (N := 16) S.1 S.2.1 S.2.2.2.2 tw_X12 S.2.2.2.1 hK hP 0 rfl rfl 10 (by decide) (S.2.2.2.2 _ hl) (fun _ h9 => h9) rfl hdg kk
theorem fp_X12_place {σ : MS} {v : Int64} (S : CallFix p m c cc nL s args tbG own) (hK : va_K z.1 vwCl (cxT z) s) (hP : va_P z.1 vwCl (mW z r σ) H) (hD : va_D A (mW z r σ)) (hS : va_S A s.heap H locs) (hl : Cond.fieldLink own index RX12 "place" "J" ∈ tbG) (hdg : decode cc pc = .ok (.putfield index, 3)) (kk : ∀ (H : Heap) (locs : List Loc), va_P z.1 vwCl (mW z r (mu_place σ v)) H → va_D A (mW z r (mu_place σ v)) → va_S A s.heap H locs → W p l e R s m args below meth c H locs 0 0 Q (F0 m (pc + 3) ls rest)) : W p l e R s m args below meth c H locs 0 0 Q (F0 m pc ls (.long v :: .ref (r 0) :: rest)) :=
  va_put (ci := 11) (ty := .long) (C := RX12) (T := TX12) (N := 16) S.1 S.2.1 S.2.2.2.2 tw_X12 tyX12 tyX12_ok nmX12 S.2.2.2.1 hK hP hD hS 0 rfl rfl 10 (by decide) (S.2.2.2.2 _ hl) (fun _ h9 => h9) rfl (by decide +kernel) rfl rfl (Nat.le_of_ble_eq_true rfl) hdg (fun H locs hP hD hS => kk H locs hP hD hS)
theorem fg_X12_taken {σ : MS} (S : CallFix p m c cc nL s args tbG own) (hK : va_K z.1 vwCl (cxT z) s) (hP : va_P z.1 vwCl (mW z r σ) H) (hl : Cond.fieldLink own index RX12 "taken" "I" ∈ tbG) (hdg : decode cc pc = .ok (.getfield index, 3)) (kk : W p l e R s m args below meth c H locs 0 0 Q (F0 m (pc + 3) ls (.int (m_taken σ) :: rest))) : W p l e R s m args below meth c H locs 0 0 Q (F0 m pc ls (.ref (r 0) :: rest)) :=
  va_get (ci := 11) (C := RX12) (T := TX12) (N := 16) S.1 S.2.1 S.2.2.2.2 tw_X12 S.2.2.2.1 hK hP 0 rfl rfl 11 (by decide) (S.2.2.2.2 _ hl) (fun _ h9 => h9) rfl hdg kk
theorem fp_X12_taken {σ : MS} {v : Int32} (S : CallFix p m c cc nL s args tbG own) (hK : va_K z.1 vwCl (cxT z) s) (hP : va_P z.1 vwCl (mW z r σ) H) (hD : va_D A (mW z r σ)) (hS : va_S A s.heap H locs) (hl : Cond.fieldLink own index RX12 "taken" "I" ∈ tbG) (hdg : decode cc pc = .ok (.putfield index, 3)) (kk : ∀ (H : Heap) (locs : List Loc), va_P z.1 vwCl (mW z r (mu_taken σ v)) H → va_D A (mW z r (mu_taken σ v)) → va_S A s.heap H locs → W p l e R s m args below meth c H locs 0 0 Q (F0 m (pc + 3) ls rest)) : W p l e R s m args below meth c H locs 0 0 Q (F0 m pc ls (.int v :: .ref (r 0) :: rest)) :=
  va_put (ci := 11) (ty := .int) (C := RX12) (T := TX12) (N := 16) S.1 S.2.1 S.2.2.2.2 tw_X12 tyX12 tyX12_ok nmX12 S.2.2.2.1 hK hP hD hS 0 rfl rfl 11 (by decide) (S.2.2.2.2 _ hl) (fun _ h9 => h9) rfl (by decide +kernel) rfl rfl (Nat.le_of_ble_eq_true rfl) hdg (fun H locs hP hD hS => kk H locs hP hD hS)
theorem fg_X12_carry {σ : MS} (S : CallFix p m c cc nL s args tbG own) (hK : va_K z.1 vwCl (cxT z) s) (hP : va_P z.1 vwCl (mW z r σ) H) (hl : Cond.fieldLink own index RX12 "carry" "I" ∈ tbG) (hdg : decode cc pc = .ok (.getfield index, 3)) (kk : W p l e R s m args below meth c H locs 0 0 Q (F0 m (pc + 3) ls (.int (m_carry σ) :: rest))) : W p l e R s m args below meth c H locs 0 0 Q (F0 m pc ls (.ref (r 0) :: rest)) :=
  va_get (ci := 11) (C := RX12) (T := TX12) (N := 16) S.1 S.2.1 S.2.2.2.2 tw_X12 S.2.2.2.1 hK hP 0 rfl rfl 12 (by decide) (S.2.2.2.2 _ hl) (fun _ h9 => h9) rfl hdg kk
theorem fp_X12_carry {σ : MS} {v : Int32} (S : CallFix p m c cc nL s args tbG own) (hK : va_K z.1 vwCl (cxT z) s) (hP : va_P z.1 vwCl (mW z r σ) H) (hD : va_D A (mW z r σ)) (hS : va_S A s.heap H locs) (hl : Cond.fieldLink own index RX12 "carry" "I" ∈ tbG) (hdg : decode cc pc = .ok (.putfield index, 3)) (kk : ∀ (H : Heap) (locs : List Loc), va_P z.1 vwCl (mW z r (mu_carry σ v)) H → va_D A (mW z r (mu_carry σ v)) → va_S A s.heap H locs → W p l e R s m args below meth c H locs 0 0 Q (F0 m (pc + 3) ls rest)) : W p l e R s m args below meth c H locs 0 0 Q (F0 m pc ls (.int v :: .ref (r 0) :: rest)) :=
  va_put (ci := 11) (ty := .int) (C := RX12) (T := TX12) (N := 16) S.1 S.2.1 S.2.2.2.2 tw_X12 tyX12 tyX12_ok nmX12 S.2.2.2.1 hK hP hD hS 0 rfl rfl 12 (by decide) (S.2.2.2.2 _ hl) (fun _ h9 => h9) rfl (by decide +kernel) rfl rfl (Nat.le_of_ble_eq_true rfl) hdg (fun H locs hP hD hS => kk H locs hP hD hS)
theorem fg_X12_over {σ : MS} (S : CallFix p m c cc nL s args tbG own) (hK : va_K z.1 vwCl (cxT z) s) (hP : va_P z.1 vwCl (mW z r σ) H) (hl : Cond.fieldLink own index RX12 "over" "I" ∈ tbG) (hdg : decode cc pc = .ok (.getfield index, 3)) (kk : W p l e R s m args below meth c H locs 0 0 Q (F0 m (pc + 3) ls (.int (m_over σ) :: rest))) : W p l e R s m args below meth c H locs 0 0 Q (F0 m pc ls (.ref (r 0) :: rest)) :=
  va_get (ci := 11) (C := RX12) (T := TX12) (N := 16) S.1 S.2.1 S.2.2.2.2 tw_X12 S.2.2.2.1 hK hP 0 rfl rfl 13 (by decide) (S.2.2.2.2 _ hl) (fun _ h9 => h9) rfl hdg kk
theorem fp_X12_over {σ : MS} {v : Int32} (S : CallFix p m c cc nL s args tbG own) (hK : va_K z.1 vwCl (cxT z) s) (hP : va_P z.1 vwCl (mW z r σ) H) (hD : va_D A (mW z r σ)) (hS : va_S A s.heap H locs) (hl : Cond.fieldLink own index RX12 "over" "I" ∈ tbG) (hdg : decode cc pc = .ok (.putfield index, 3)) (kk : ∀ (H : Heap) (locs : List Loc), va_P z.1 vwCl (mW z r (mu_over σ v)) H → va_D A (mW z r (mu_over σ v)) → va_S A s.heap H locs → W p l e R s m args below meth c H locs 0 0 Q (F0 m (pc + 3) ls rest)) : W p l e R s m args below meth c H locs 0 0 Q (F0 m pc ls (.int v :: .ref (r 0) :: rest)) :=
  va_put (ci := 11) (ty := .int) (C := RX12) (T := TX12) (N := 16) S.1 S.2.1 S.2.2.2.2 tw_X12 tyX12 tyX12_ok nmX12 S.2.2.2.1 hK hP hD hS 0 rfl rfl 13 (by decide) (S.2.2.2.2 _ hl) (fun _ h9 => h9) rfl (by decide +kernel) rfl rfl (Nat.le_of_ble_eq_true rfl) hdg (fun H locs hP hD hS => kk H locs hP hD hS)
theorem fg_X12_ins {σ : MS} (S : CallFix p m c cc nL s args tbG own) (hK : va_K z.1 vwCl (cxT z) s) (hP : va_P z.1 vwCl (mW z r σ) H) (hl : Cond.fieldLink own index RX12 "ins" "I" ∈ tbG) (hdg : decode cc pc = .ok (.getfield index, 3)) (kk : W p l e R s m args below meth c H locs 0 0 Q (F0 m (pc + 3) ls (.int (m_ins σ) :: rest))) : W p l e R s m args below meth c H locs 0 0 Q (F0 m pc ls (.ref (r 0) :: rest)) :=
  va_get (ci := 11) (C := RX12) (T := TX12) (N := 16) S.1 S.2.1 S.2.2.2.2 tw_X12 S.2.2.2.1 hK hP 0 rfl rfl 14 (by decide) (S.2.2.2.2 _ hl) (fun _ h9 => h9) rfl hdg kk
theorem fp_X12_ins {σ : MS} {v : Int32} (S : CallFix p m c cc nL s args tbG own) (hK : va_K z.1 vwCl (cxT z) s) (hP : va_P z.1 vwCl (mW z r σ) H) (hD : va_D A (mW z r σ)) (hS : va_S A s.heap H locs) (hl : Cond.fieldLink own index RX12 "ins" "I" ∈ tbG) (hdg : decode cc pc = .ok (.putfield index, 3)) (kk : ∀ (H : Heap) (locs : List Loc), va_P z.1 vwCl (mW z r (mu_ins σ v)) H → va_D A (mW z r (mu_ins σ v)) → va_S A s.heap H locs → W p l e R s m args below meth c H locs 0 0 Q (F0 m (pc + 3) ls rest)) : W p l e R s m args below meth c H locs 0 0 Q (F0 m pc ls (.int v :: .ref (r 0) :: rest)) :=
  va_put (ci := 11) (ty := .int) (C := RX12) (T := TX12) (N := 16) S.1 S.2.1 S.2.2.2.2 tw_X12 tyX12 tyX12_ok nmX12 S.2.2.2.1 hK hP hD hS 0 rfl rfl 14 (by decide) (S.2.2.2.2 _ hl) (fun _ h9 => h9) rfl (by decide +kernel) rfl rfl (Nat.le_of_ble_eq_true rfl) hdg (fun H locs hP hD hS => kk H locs hP hD hS)
theorem fg_X12_asked {σ : MS} (S : CallFix p m c cc nL s args tbG own) (hK : va_K z.1 vwCl (cxT z) s) (hP : va_P z.1 vwCl (mW z r σ) H) (hl : Cond.fieldLink own index RX12 "asked" "Z" ∈ tbG) (hdg : decode cc pc = .ok (.getfield index, 3)) (kk : W p l e R s m args below meth c H locs 0 0 Q (F0 m (pc + 3) ls (.int (zB (m_asked σ)) :: rest))) : W p l e R s m args below meth c H locs 0 0 Q (F0 m pc ls (.ref (r 0) :: rest)) :=
  va_get (ci := 11) (C := RX12) (T := TX12) (N := 16) S.1 S.2.1 S.2.2.2.2 tw_X12 S.2.2.2.1 hK hP 0 rfl rfl 15 (by decide) (S.2.2.2.2 _ hl) (fun _ h9 => h9) rfl hdg kk
theorem fp_X12_asked {σ : MS} {v : Bool} (S : CallFix p m c cc nL s args tbG own) (hK : va_K z.1 vwCl (cxT z) s) (hP : va_P z.1 vwCl (mW z r σ) H) (hD : va_D A (mW z r σ)) (hS : va_S A s.heap H locs) (hl : Cond.fieldLink own index RX12 "asked" "Z" ∈ tbG) (hdg : decode cc pc = .ok (.putfield index, 3)) (kk : ∀ (H : Heap) (locs : List Loc), va_P z.1 vwCl (mW z r (mu_asked σ v)) H → va_D A (mW z r (mu_asked σ v)) → va_S A s.heap H locs → W p l e R s m args below meth c H locs 0 0 Q (F0 m (pc + 3) ls rest)) : W p l e R s m args below meth c H locs 0 0 Q (F0 m pc ls (.int (zB v) :: .ref (r 0) :: rest)) :=
  va_put (ci := 11) (ty := .boolean) (C := RX12) (T := TX12) (N := 16) S.1 S.2.1 S.2.2.2.2 tw_X12 tyX12 tyX12_ok nmX12 S.2.2.2.1 hK hP hD hS 0 rfl rfl 15 (by decide) (S.2.2.2.2 _ hl) (fun _ h9 => h9) rfl (by decide +kernel) (zB_nar v) (zB_fit v) (Nat.le_of_ble_eq_true rfl) hdg (fun H locs hP hD hS => kk H locs hP hD hS)
theorem al_xC {σ : XS} {i : Int32} (S : CallFix p m c cc nL s args tbG own) (hK : va_K z.1 vwCl (cxT z) s) (hP : va_P z.1 vwCl (xW z r σ) H) (hin : vp_in i 8192) (hdg : decode cc pc = .ok (.laload, 1)) (kk : W p l e R s m args below meth c H locs 0 0 Q (F0 m (pc + 1) ls (.long (xC σ i.toNatClampNeg) :: rest))) : W p l e R s m args below meth c H locs 0 0 Q (F0 m pc ls (.int i :: .ref (r 2) :: rest)) :=
  va_lald S.1 S.2.1 hK hP 2 1 rfl rfl hin hdg kk
theorem ar_xC {σ : XS} {i : Int32} {x : Int64} (S : CallFix p m c cc nL s args tbG own) (hK : va_K z.1 vwCl (cxT z) s) (hP : va_P z.1 vwCl (xW z r σ) H) (hD : va_D A (xW z r σ)) (hS : va_S A s.heap H locs) (hin : vp_in i 8192) (hdg : decode cc pc = .ok (.lastore, 1)) (kk : ∀ (H : Heap) (locs : List Loc), va_P z.1 vwCl (xW z r (xuC σ (vp_updL (xC σ) i.toNatClampNeg x))) H → va_D A (xW z r (xuC σ (vp_updL (xC σ) i.toNatClampNeg x))) → va_S A s.heap H locs → W p l e R s m args below meth c H locs 0 0 Q (F0 m (pc + 1) ls rest)) : W p l e R s m args below meth c H locs 0 0 Q (F0 m pc ls (.long x :: .int i :: .ref (r 2) :: rest)) :=
  va_last S.1 S.2.1 hK hP hD hS 2 1 rfl rfl hin hdg (fun H locs hP hD hS => kk H locs hP hD hS)
theorem al_xP {σ : XS} {i : Int32} (S : CallFix p m c cc nL s args tbG own) (hK : va_K z.1 vwCl (cxT z) s) (hP : va_P z.1 vwCl (xW z r σ) H) (hin : vp_in i 46) (hdg : decode cc pc = .ok (.laload, 1)) (kk : W p l e R s m args below meth c H locs 0 0 Q (F0 m (pc + 1) ls (.long (xP σ i.toNatClampNeg) :: rest))) : W p l e R s m args below meth c H locs 0 0 Q (F0 m pc ls (.int i :: .ref (r 4) :: rest)) :=
  va_lald S.1 S.2.1 hK hP 4 1 rfl rfl hin hdg kk
theorem ar_xP {σ : XS} {i : Int32} {x : Int64} (S : CallFix p m c cc nL s args tbG own) (hK : va_K z.1 vwCl (cxT z) s) (hP : va_P z.1 vwCl (xW z r σ) H) (hD : va_D A (xW z r σ)) (hS : va_S A s.heap H locs) (hin : vp_in i 46) (hdg : decode cc pc = .ok (.lastore, 1)) (kk : ∀ (H : Heap) (locs : List Loc), va_P z.1 vwCl (xW z r (xuP σ (vp_updL (xP σ) i.toNatClampNeg x))) H → va_D A (xW z r (xuP σ (vp_updL (xP σ) i.toNatClampNeg x))) → va_S A s.heap H locs → W p l e R s m args below meth c H locs 0 0 Q (F0 m (pc + 1) ls rest)) : W p l e R s m args below meth c H locs 0 0 Q (F0 m pc ls (.long x :: .int i :: .ref (r 4) :: rest)) :=
  va_last S.1 S.2.1 hK hP hD hS 4 1 rfl rfl hin hdg (fun H locs hP hD hS => kk H locs hP hD hS)
theorem al_m_mem {σ : MS} {i : Int32} (S : CallFix p m c cc nL s args tbG own) (hK : va_K z.1 vwCl (cxT z) s) (hP : va_P z.1 vwCl (mW z r σ) H) (hin : vp_in i 65536) (hdg : decode cc pc = .ok (.iaload, 1)) (kk : W p l e R s m args below meth c H locs 0 0 Q (F0 m (pc + 1) ls (.int (m_mem σ i.toNatClampNeg) :: rest))) : W p l e R s m args below meth c H locs 0 0 Q (F0 m pc ls (.int i :: .ref (r 1) :: rest)) :=
  va_iald S.1 S.2.1 hK hP 1 0 rfl rfl hin hdg kk
theorem ar_m_mem {σ : MS} {i : Int32} {x : Int32} (S : CallFix p m c cc nL s args tbG own) (hK : va_K z.1 vwCl (cxT z) s) (hP : va_P z.1 vwCl (mW z r σ) H) (hD : va_D A (mW z r σ)) (hS : va_S A s.heap H locs) (hin : vp_in i 65536) (hdg : decode cc pc = .ok (.iastore, 1)) (kk : ∀ (H : Heap) (locs : List Loc), va_P z.1 vwCl (mW z r (mu_mem σ (upd (m_mem σ) i.toNatClampNeg x))) H → va_D A (mW z r (mu_mem σ (upd (m_mem σ) i.toNatClampNeg x))) → va_S A s.heap H locs → W p l e R s m args below meth c H locs 0 0 Q (F0 m (pc + 1) ls rest)) : W p l e R s m args below meth c H locs 0 0 Q (F0 m pc ls (.int x :: .int i :: .ref (r 1) :: rest)) :=
  va_iast S.1 S.2.1 hK hP hD hS 1 0 rfl rfl hin hdg (fun H locs hP hD hS => kk H locs hP hD hS)
theorem al_m_x {σ : MS} {i : Int32} (S : CallFix p m c cc nL s args tbG own) (hK : va_K z.1 vwCl (cxT z) s) (hP : va_P z.1 vwCl (mW z r σ) H) (hin : vp_in i 32) (hdg : decode cc pc = .ok (.laload, 1)) (kk : W p l e R s m args below meth c H locs 0 0 Q (F0 m (pc + 1) ls (.long (m_x σ i.toNatClampNeg) :: rest))) : W p l e R s m args below meth c H locs 0 0 Q (F0 m pc ls (.int i :: .ref (r 2) :: rest)) :=
  va_lald S.1 S.2.1 hK hP 2 1 rfl rfl hin hdg kk
theorem ar_m_x {σ : MS} {i : Int32} {x : Int64} (S : CallFix p m c cc nL s args tbG own) (hK : va_K z.1 vwCl (cxT z) s) (hP : va_P z.1 vwCl (mW z r σ) H) (hD : va_D A (mW z r σ)) (hS : va_S A s.heap H locs) (hin : vp_in i 32) (hdg : decode cc pc = .ok (.lastore, 1)) (kk : ∀ (H : Heap) (locs : List Loc), va_P z.1 vwCl (mW z r (mu_x σ (vp_updL (m_x σ) i.toNatClampNeg x))) H → va_D A (mW z r (mu_x σ (vp_updL (m_x σ) i.toNatClampNeg x))) → va_S A s.heap H locs → W p l e R s m args below meth c H locs 0 0 Q (F0 m (pc + 1) ls rest)) : W p l e R s m args below meth c H locs 0 0 Q (F0 m pc ls (.long x :: .int i :: .ref (r 2) :: rest)) :=
  va_last S.1 S.2.1 hK hP hD hS 2 1 rfl rfl hin hdg (fun H locs hP hD hS => kk H locs hP hD hS)
theorem al_m_state {σ : MS} {i : Int32} (S : CallFix p m c cc nL s args tbG own) (hK : va_K z.1 vwCl (cxT z) s) (hP : va_P z.1 vwCl (mW z r σ) H) (hin : vp_in i 11) (hdg : decode cc pc = .ok (.laload, 1)) (kk : W p l e R s m args below meth c H locs 0 0 Q (F0 m (pc + 1) ls (.long (m_state σ i.toNatClampNeg) :: rest))) : W p l e R s m args below meth c H locs 0 0 Q (F0 m pc ls (.int i :: .ref (r 3) :: rest)) :=
  va_lald S.1 S.2.1 hK hP 3 1 rfl rfl hin hdg kk
theorem ar_m_state {σ : MS} {i : Int32} {x : Int64} (S : CallFix p m c cc nL s args tbG own) (hK : va_K z.1 vwCl (cxT z) s) (hP : va_P z.1 vwCl (mW z r σ) H) (hD : va_D A (mW z r σ)) (hS : va_S A s.heap H locs) (hin : vp_in i 11) (hdg : decode cc pc = .ok (.lastore, 1)) (kk : ∀ (H : Heap) (locs : List Loc), va_P z.1 vwCl (mW z r (mu_state σ (vp_updL (m_state σ) i.toNatClampNeg x))) H → va_D A (mW z r (mu_state σ (vp_updL (m_state σ) i.toNatClampNeg x))) → va_S A s.heap H locs → W p l e R s m args below meth c H locs 0 0 Q (F0 m (pc + 1) ls rest)) : W p l e R s m args below meth c H locs 0 0 Q (F0 m pc ls (.long x :: .int i :: .ref (r 3) :: rest)) :=
  va_last S.1 S.2.1 hK hP hD hS 3 1 rfl rfl hin hdg (fun H locs hP hD hS => kk H locs hP hD hS)
end FR
end
