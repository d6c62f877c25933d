section
/-- a private method of a class that the tables say can be made, by its rows of tables_1 -/
def lw_okq (q : MethodName × Nat) : Prop := (q.1.cls ≠ "java/lang/invoke/MethodHandle" ∧ q.1.cls ≠ "java/lang/invoke/VarHandle") ∧ Cond.instantiable q.1.cls q.2 ∈ tables_1 ∧ Cond.privateMethod q.1 ∈ tables_1 ∧ Cond.instanceMethod q.1 ∈ tables_1
theorem lw_p0 : lw_okq (⟨"GuardCore", "isWordPlace", "(I)Z"⟩, 4) := ⟨⟨by decide +kernel, by decide +kernel⟩, List.mem_of_getElem? (i := 18) (by decide +kernel), List.mem_of_getElem? (i := 192) (by decide +kernel), List.mem_of_getElem? (i := 193) (by decide +kernel)⟩
theorem lw_p1 : lw_okq (⟨"GuardCore$State", "enter", "(JI)V"⟩, 4) := ⟨⟨by decide +kernel, by decide +kernel⟩, List.mem_of_getElem? (i := 37) (by decide +kernel), List.mem_of_getElem? (i := 275) (by decide +kernel), List.mem_of_getElem? (i := 276) (by decide +kernel)⟩
theorem lw_p2 : lw_okq (⟨"GuardCore$State", "tell", "(II)V"⟩, 4) := ⟨⟨by decide +kernel, by decide +kernel⟩, List.mem_of_getElem? (i := 37) (by decide +kernel), List.mem_of_getElem? (i := 291) (by decide +kernel), List.mem_of_getElem? (i := 292) (by decide +kernel)⟩
theorem lw_p3 : lw_okq (⟨"GuardCore$Walk", "translated", "(JII)J"⟩, 2) := ⟨⟨by decide +kernel, by decide +kernel⟩, List.mem_of_getElem? (i := 56) (by decide +kernel), List.mem_of_getElem? (i := 305) (by decide +kernel), List.mem_of_getElem? (i := 306) (by decide +kernel)⟩
theorem lw_p4 : lw_okq (⟨"GuardCore$Accesses", "stackIsCrooked", "(I)Z"⟩, 3) := ⟨⟨by decide +kernel, by decide +kernel⟩, List.mem_of_getElem? (i := 111) (by decide +kernel), List.mem_of_getElem? (i := 339) (by decide +kernel), List.mem_of_getElem? (i := 340) (by decide +kernel)⟩
theorem lw_p5 : lw_okq (⟨"GuardCore$State", "stack", "()I"⟩, 4) := ⟨⟨by decide +kernel, by decide +kernel⟩, List.mem_of_getElem? (i := 37) (by decide +kernel), List.mem_of_getElem? (i := 347) (by decide +kernel), List.mem_of_getElem? (i := 348) (by decide +kernel)⟩
theorem lw_p6 : lw_okq (⟨"GuardCore$Accesses", "find", "(JIZ)I"⟩, 3) := ⟨⟨by decide +kernel, by decide +kernel⟩, List.mem_of_getElem? (i := 111) (by decide +kernel), List.mem_of_getElem? (i := 360) (by decide +kernel), List.mem_of_getElem? (i := 361) (by decide +kernel)⟩
theorem lw_p7 : lw_okq (⟨"GuardCore$Registers", "right", "(I)J"⟩, 2) := ⟨⟨by decide +kernel, by decide +kernel⟩, List.mem_of_getElem? (i := 98) (by decide +kernel), List.mem_of_getElem? (i := 397) (by decide +kernel), List.mem_of_getElem? (i := 398) (by decide +kernel)⟩
theorem lw_p8 : lw_okq (⟨"GuardCore$Registers", "left", "(I)J"⟩, 2) := ⟨⟨by decide +kernel, by decide +kernel⟩, List.mem_of_getElem? (i := 98) (by decide +kernel), List.mem_of_getElem? (i := 415) (by decide +kernel), List.mem_of_getElem? (i := 416) (by decide +kernel)⟩
theorem lw_p9 : lw_okq (⟨"GuardCore$Registers", "put", "(IJ)Z"⟩, 2) := ⟨⟨by decide +kernel, by decide +kernel⟩, List.mem_of_getElem? (i := 98) (by decide +kernel), List.mem_of_getElem? (i := 429) (by decide +kernel), List.mem_of_getElem? (i := 430) (by decide +kernel)⟩
theorem lw_p10 : lw_okq (⟨"GuardCore$Processor", "performsBranch", "()Z"⟩, 9) := ⟨⟨by decide +kernel, by decide +kernel⟩, List.mem_of_getElem? (i := 69) (by decide +kernel), List.mem_of_getElem? (i := 495) (by decide +kernel), List.mem_of_getElem? (i := 496) (by decide +kernel)⟩
theorem lw_p11 : lw_okq (⟨"GuardCore$Branches", "jump", "(ZJ)Z"⟩, 1) := ⟨⟨by decide +kernel, by decide +kernel⟩, List.mem_of_getElem? (i := 127) (by decide +kernel), List.mem_of_getElem? (i := 507) (by decide +kernel), List.mem_of_getElem? (i := 508) (by decide +kernel)⟩
theorem lw_p12 : lw_okq (⟨"GuardCore$Processor", "performsControl", "()Z"⟩, 9) := ⟨⟨by decide +kernel, by decide +kernel⟩, List.mem_of_getElem? (i := 69) (by decide +kernel), List.mem_of_getElem? (i := 527) (by decide +kernel), List.mem_of_getElem? (i := 528) (by decide +kernel)⟩
theorem lw_p13 : lw_okq (⟨"GuardCore$Accesses", "offset", "(I)J"⟩, 3) := ⟨⟨by decide +kernel, by decide +kernel⟩, List.mem_of_getElem? (i := 111) (by decide +kernel), List.mem_of_getElem? (i := 601) (by decide +kernel), List.mem_of_getElem? (i := 602) (by decide +kernel)⟩
theorem lw_p14 : lw_okq (⟨"GuardCore$Processor", "performsRegisters", "()Z"⟩, 9) := ⟨⟨by decide +kernel, by decide +kernel⟩, List.mem_of_getElem? (i := 69) (by decide +kernel), List.mem_of_getElem? (i := 612) (by decide +kernel), List.mem_of_getElem? (i := 613) (by decide +kernel)⟩
theorem lw_p15 : lw_okq (⟨"GuardCoreModel", "bytes", "(II)J"⟩, 16) := ⟨⟨by decide +kernel, by decide +kernel⟩, List.mem_of_getElem? (i := 699) (by decide +kernel), List.mem_of_getElem? (i := 765) (by decide +kernel), List.mem_of_getElem? (i := 766) (by decide +kernel)⟩
def lw_privs_1 : List (MethodName × Nat) := [(⟨"GuardCore", "isWordPlace", "(I)Z"⟩, 4), (⟨"GuardCore$State", "enter", "(JI)V"⟩, 4), (⟨"GuardCore$State", "tell", "(II)V"⟩, 4), (⟨"GuardCore$Walk", "translated", "(JII)J"⟩, 2), (⟨"GuardCore$Accesses", "stackIsCrooked", "(I)Z"⟩, 3), (⟨"GuardCore$State", "stack", "()I"⟩, 4), (⟨"GuardCore$Accesses", "find", "(JIZ)I"⟩, 3), (⟨"GuardCore$Registers", "right", "(I)J"⟩, 2), (⟨"GuardCore$Registers", "left", "(I)J"⟩, 2), (⟨"GuardCore$Registers", "put", "(IJ)Z"⟩, 2), (⟨"GuardCore$Processor", "performsBranch", "()Z"⟩, 9), (⟨"GuardCore$Branches", "jump", "(ZJ)Z"⟩, 1), (⟨"GuardCore$Processor", "performsControl", "()Z"⟩, 9), (⟨"GuardCore$Accesses", "offset", "(I)J"⟩, 3), (⟨"GuardCore$Processor", "performsRegisters", "()Z"⟩, 9), (⟨"GuardCoreModel", "bytes", "(II)J"⟩, 16)]
theorem lw_r1 : ∀ q ∈ lw_privs_1, lw_okq q := List.forall_mem_cons.mpr ⟨lw_p0, List.forall_mem_cons.mpr ⟨lw_p1, List.forall_mem_cons.mpr ⟨lw_p2, List.forall_mem_cons.mpr ⟨lw_p3, List.forall_mem_cons.mpr ⟨lw_p4, List.forall_mem_cons.mpr ⟨lw_p5, List.forall_mem_cons.mpr ⟨lw_p6, List.forall_mem_cons.mpr ⟨lw_p7, List.forall_mem_cons.mpr ⟨lw_p8, List.forall_mem_cons.mpr ⟨lw_p9, List.forall_mem_cons.mpr ⟨lw_p10, List.forall_mem_cons.mpr ⟨lw_p11, List.forall_mem_cons.mpr ⟨lw_p12, List.forall_mem_cons.mpr ⟨lw_p13, List.forall_mem_cons.mpr ⟨lw_p14, List.forall_mem_cons.mpr ⟨lw_p15, fun _ h => absurd h List.not_mem_nil⟩⟩⟩⟩⟩⟩⟩⟩⟩⟩⟩⟩⟩⟩⟩⟩
theorem lw_p16 : lw_okq (⟨"GuardCoreModel", "part", "(I)J"⟩, 16) := ⟨⟨by decide +kernel, by decide +kernel⟩, List.mem_of_getElem? (i := 699) (by decide +kernel), List.mem_of_getElem? (i := 778) (by decide +kernel), List.mem_of_getElem? (i := 779) (by decide +kernel)⟩
theorem lw_p17 : lw_okq (⟨"GuardCoreModel", "oneStep", "()V"⟩, 16) := ⟨⟨by decide +kernel, by decide +kernel⟩, List.mem_of_getElem? (i := 699) (by decide +kernel), List.mem_of_getElem? (i := 794) (by decide +kernel), List.mem_of_getElem? (i := 795) (by decide +kernel)⟩
theorem lw_p18 : lw_okq (⟨"GuardCoreModel", "enters", "(JZ)V"⟩, 16) := ⟨⟨by decide +kernel, by decide +kernel⟩, List.mem_of_getElem? (i := 699) (by decide +kernel), List.mem_of_getElem? (i := 798) (by decide +kernel), List.mem_of_getElem? (i := 799) (by decide +kernel)⟩
theorem lw_p19 : lw_okq (⟨"GuardCoreModel", "exception", "(IJJ)V"⟩, 16) := ⟨⟨by decide +kernel, by decide +kernel⟩, List.mem_of_getElem? (i := 699) (by decide +kernel), List.mem_of_getElem? (i := 808) (by decide +kernel), List.mem_of_getElem? (i := 809) (by decide +kernel)⟩
theorem lw_p20 : lw_okq (⟨"GuardCoreModel", "leads", "(JII)Z"⟩, 16) := ⟨⟨by decide +kernel, by decide +kernel⟩, List.mem_of_getElem? (i := 699) (by decide +kernel), List.mem_of_getElem? (i := 813) (by decide +kernel), List.mem_of_getElem? (i := 814) (by decide +kernel)⟩
theorem lw_p21 : lw_okq (⟨"GuardCoreModel", "wrong", "(I)Z"⟩, 16) := ⟨⟨by decide +kernel, by decide +kernel⟩, List.mem_of_getElem? (i := 699) (by decide +kernel), List.mem_of_getElem? (i := 823) (by decide +kernel), List.mem_of_getElem? (i := 824) (by decide +kernel)⟩
theorem lw_p22 : lw_okq (⟨"GuardCoreModel", "inside", "(I)Z"⟩, 16) := ⟨⟨by decide +kernel, by decide +kernel⟩, List.mem_of_getElem? (i := 699) (by decide +kernel), List.mem_of_getElem? (i := 832) (by decide +kernel), List.mem_of_getElem? (i := 833) (by decide +kernel)⟩
theorem lw_p23 : lw_okq (⟨"GuardCoreModel", "does", "()V"⟩, 16) := ⟨⟨by decide +kernel, by decide +kernel⟩, List.mem_of_getElem? (i := 699) (by decide +kernel), List.mem_of_getElem? (i := 836) (by decide +kernel), List.mem_of_getElem? (i := 837) (by decide +kernel)⟩
theorem lw_p24 : lw_okq (⟨"GuardCoreModel", "f", "(II)I"⟩, 16) := ⟨⟨by decide +kernel, by decide +kernel⟩, List.mem_of_getElem? (i := 699) (by decide +kernel), List.mem_of_getElem? (i := 840) (by decide +kernel), List.mem_of_getElem? (i := 841) (by decide +kernel)⟩
theorem lw_p25 : lw_okq (⟨"GuardCoreModel", "number", "()V"⟩, 16) := ⟨⟨by decide +kernel, by decide +kernel⟩, List.mem_of_getElem? (i := 699) (by decide +kernel), List.mem_of_getElem? (i := 844) (by decide +kernel), List.mem_of_getElem? (i := 845) (by decide +kernel)⟩
theorem lw_p26 : lw_okq (⟨"GuardCoreModel", "width", "()I"⟩, 16) := ⟨⟨by decide +kernel, by decide +kernel⟩, List.mem_of_getElem? (i := 699) (by decide +kernel), List.mem_of_getElem? (i := 848) (by decide +kernel), List.mem_of_getElem? (i := 849) (by decide +kernel)⟩
theorem lw_p27 : lw_okq (⟨"GuardCoreModel", "on", "(I)Z"⟩, 16) := ⟨⟨by decide +kernel, by decide +kernel⟩, List.mem_of_getElem? (i := 699) (by decide +kernel), List.mem_of_getElem? (i := 852) (by decide +kernel), List.mem_of_getElem? (i := 853) (by decide +kernel)⟩
theorem lw_p28 : lw_okq (⟨"GuardCoreModel", "regOrPointer", "(I)J"⟩, 16) := ⟨⟨by decide +kernel, by decide +kernel⟩, List.mem_of_getElem? (i := 699) (by decide +kernel), List.mem_of_getElem? (i := 857) (by decide +kernel), List.mem_of_getElem? (i := 858) (by decide +kernel)⟩
theorem lw_p29 : lw_okq (⟨"GuardCoreModel", "pointer", "()I"⟩, 16) := ⟨⟨by decide +kernel, by decide +kernel⟩, List.mem_of_getElem? (i := 699) (by decide +kernel), List.mem_of_getElem? (i := 861) (by decide +kernel), List.mem_of_getElem? (i := 862) (by decide +kernel)⟩
theorem lw_p30 : lw_okq (⟨"GuardCoreModel", "sum", "(JJII)J"⟩, 16) := ⟨⟨by decide +kernel, by decide +kernel⟩, List.mem_of_getElem? (i := 699) (by decide +kernel), List.mem_of_getElem? (i := 869) (by decide +kernel), List.mem_of_getElem? (i := 870) (by decide +kernel)⟩
theorem lw_p31 : lw_okq (⟨"GuardCoreModel", "signs", "(JIII)V"⟩, 16) := ⟨⟨by decide +kernel, by decide +kernel⟩, List.mem_of_getElem? (i := 699) (by decide +kernel), List.mem_of_getElem? (i := 873) (by decide +kernel), List.mem_of_getElem? (i := 874) (by decide +kernel)⟩
def lw_privs_2 : List (MethodName × Nat) := [(⟨"GuardCoreModel", "part", "(I)J"⟩, 16), (⟨"GuardCoreModel", "oneStep", "()V"⟩, 16), (⟨"GuardCoreModel", "enters", "(JZ)V"⟩, 16), (⟨"GuardCoreModel", "exception", "(IJJ)V"⟩, 16), (⟨"GuardCoreModel", "leads", "(JII)Z"⟩, 16), (⟨"GuardCoreModel", "wrong", "(I)Z"⟩, 16), (⟨"GuardCoreModel", "inside", "(I)Z"⟩, 16), (⟨"GuardCoreModel", "does", "()V"⟩, 16), (⟨"GuardCoreModel", "f", "(II)I"⟩, 16), (⟨"GuardCoreModel", "number", "()V"⟩, 16), (⟨"GuardCoreModel", "width", "()I"⟩, 16), (⟨"GuardCoreModel", "on", "(I)Z"⟩, 16), (⟨"GuardCoreModel", "regOrPointer", "(I)J"⟩, 16), (⟨"GuardCoreModel", "pointer", "()I"⟩, 16), (⟨"GuardCoreModel", "sum", "(JJII)J"⟩, 16), (⟨"GuardCoreModel", "signs", "(JIII)V"⟩, 16)]
theorem lw_r2 : ∀ q ∈ lw_privs_2, lw_okq q := List.forall_mem_cons.mpr ⟨lw_p16, List.forall_mem_cons.mpr ⟨lw_p17, List.forall_mem_cons.mpr ⟨lw_p18, List.forall_mem_cons.mpr ⟨lw_p19, List.forall_mem_cons.mpr ⟨lw_p20, List.forall_mem_cons.mpr ⟨lw_p21, List.forall_mem_cons.mpr ⟨lw_p22, List.forall_mem_cons.mpr ⟨lw_p23, List.forall_mem_cons.mpr ⟨lw_p24, List.forall_mem_cons.mpr ⟨lw_p25, List.forall_mem_cons.mpr ⟨lw_p26, List.forall_mem_cons.mpr ⟨lw_p27, List.forall_mem_cons.mpr ⟨lw_p28, List.forall_mem_cons.mpr ⟨lw_p29, List.forall_mem_cons.mpr ⟨lw_p30, List.forall_mem_cons.mpr ⟨lw_p31, fun _ h => absurd h List.not_mem_nil⟩⟩⟩⟩⟩⟩⟩⟩⟩⟩⟩⟩⟩⟩⟩⟩
theorem lw_p32 : lw_okq (⟨"GuardCoreModel", "put", "(IJ)V"⟩, 16) := ⟨⟨by decide +kernel, by decide +kernel⟩, List.mem_of_getElem? (i := 699) (by decide +kernel), List.mem_of_getElem? (i := 877) (by decide +kernel), List.mem_of_getElem? (i := 878) (by decide +kernel)⟩
theorem lw_p33 : lw_okq (⟨"GuardCoreModel", "putOrPointer", "(IJ)V"⟩, 16) := ⟨⟨by decide +kernel, by decide +kernel⟩, List.mem_of_getElem? (i := 699) (by decide +kernel), List.mem_of_getElem? (i := 881) (by decide +kernel), List.mem_of_getElem? (i := 882) (by decide +kernel)⟩
theorem lw_p34 : lw_okq (⟨"GuardCoreModel", "sums", "()V"⟩, 16) := ⟨⟨by decide +kernel, by decide +kernel⟩, List.mem_of_getElem? (i := 699) (by decide +kernel), List.mem_of_getElem? (i := 885) (by decide +kernel), List.mem_of_getElem? (i := 886) (by decide +kernel)⟩
theorem lw_p35 : lw_okq (⟨"GuardCoreModel", "none", "()V"⟩, 16) := ⟨⟨by decide +kernel, by decide +kernel⟩, List.mem_of_getElem? (i := 699) (by decide +kernel), List.mem_of_getElem? (i := 889) (by decide +kernel), List.mem_of_getElem? (i := 890) (by decide +kernel)⟩
theorem lw_p36 : lw_okq (⟨"GuardCoreModel", "reg", "(I)J"⟩, 16) := ⟨⟨by decide +kernel, by decide +kernel⟩, List.mem_of_getElem? (i := 699) (by decide +kernel), List.mem_of_getElem? (i := 893) (by decide +kernel), List.mem_of_getElem? (i := 894) (by decide +kernel)⟩
theorem lw_p37 : lw_okq (⟨"GuardCoreModel", "logic", "()V"⟩, 16) := ⟨⟨by decide +kernel, by decide +kernel⟩, List.mem_of_getElem? (i := 699) (by decide +kernel), List.mem_of_getElem? (i := 900) (by decide +kernel), List.mem_of_getElem? (i := 901) (by decide +kernel)⟩
theorem lw_p38 : lw_okq (⟨"GuardCoreModel", "joined", "(IJJ)J"⟩, 16) := ⟨⟨by decide +kernel, by decide +kernel⟩, List.mem_of_getElem? (i := 699) (by decide +kernel), List.mem_of_getElem? (i := 904) (by decide +kernel), List.mem_of_getElem? (i := 905) (by decide +kernel)⟩
theorem lw_p39 : lw_okq (⟨"GuardCoreModel", "masks", "()V"⟩, 16) := ⟨⟨by decide +kernel, by decide +kernel⟩, List.mem_of_getElem? (i := 699) (by decide +kernel), List.mem_of_getElem? (i := 908) (by decide +kernel), List.mem_of_getElem? (i := 909) (by decide +kernel)⟩
theorem lw_p40 : lw_okq (⟨"GuardCoreModel", "move", "()V"⟩, 16) := ⟨⟨by decide +kernel, by decide +kernel⟩, List.mem_of_getElem? (i := 699) (by decide +kernel), List.mem_of_getElem? (i := 912) (by decide +kernel), List.mem_of_getElem? (i := 913) (by decide +kernel)⟩
theorem lw_p41 : lw_okq (⟨"GuardCoreModel", "placeOf", "()V"⟩, 16) := ⟨⟨by decide +kernel, by decide +kernel⟩, List.mem_of_getElem? (i := 699) (by decide +kernel), List.mem_of_getElem? (i := 917) (by decide +kernel), List.mem_of_getElem? (i := 918) (by decide +kernel)⟩
theorem lw_p42 : lw_okq (⟨"GuardCoreModel", "bitsOf", "()V"⟩, 16) := ⟨⟨by decide +kernel, by decide +kernel⟩, List.mem_of_getElem? (i := 699) (by decide +kernel), List.mem_of_getElem? (i := 925) (by decide +kernel), List.mem_of_getElem? (i := 926) (by decide +kernel)⟩
theorem lw_p43 : lw_okq (⟨"GuardCoreModel", "twice", "()V"⟩, 16) := ⟨⟨by decide +kernel, by decide +kernel⟩, List.mem_of_getElem? (i := 699) (by decide +kernel), List.mem_of_getElem? (i := 929) (by decide +kernel), List.mem_of_getElem? (i := 930) (by decide +kernel)⟩
theorem lw_p44 : lw_okq (⟨"GuardCoreModel", "choose", "()V"⟩, 16) := ⟨⟨by decide +kernel, by decide +kernel⟩, List.mem_of_getElem? (i := 699) (by decide +kernel), List.mem_of_getElem? (i := 933) (by decide +kernel), List.mem_of_getElem? (i := 934) (by decide +kernel)⟩
theorem lw_p45 : lw_okq (⟨"GuardCoreModel", "holds", "(I)Z"⟩, 16) := ⟨⟨by decide +kernel, by decide +kernel⟩, List.mem_of_getElem? (i := 699) (by decide +kernel), List.mem_of_getElem? (i := 937) (by decide +kernel), List.mem_of_getElem? (i := 938) (by decide +kernel)⟩
theorem lw_p46 : lw_okq (⟨"GuardCoreModel", "compare", "()V"⟩, 16) := ⟨⟨by decide +kernel, by decide +kernel⟩, List.mem_of_getElem? (i := 699) (by decide +kernel), List.mem_of_getElem? (i := 941) (by decide +kernel), List.mem_of_getElem? (i := 942) (by decide +kernel)⟩
theorem lw_p47 : lw_okq (⟨"GuardCoreModel", "times", "()V"⟩, 16) := ⟨⟨by decide +kernel, by decide +kernel⟩, List.mem_of_getElem? (i := 699) (by decide +kernel), List.mem_of_getElem? (i := 945) (by decide +kernel), List.mem_of_getElem? (i := 946) (by decide +kernel)⟩
def lw_privs_3 : List (MethodName × Nat) := [(⟨"GuardCoreModel", "put", "(IJ)V"⟩, 16), (⟨"GuardCoreModel", "putOrPointer", "(IJ)V"⟩, 16), (⟨"GuardCoreModel", "sums", "()V"⟩, 16), (⟨"GuardCoreModel", "none", "()V"⟩, 16), (⟨"GuardCoreModel", "reg", "(I)J"⟩, 16), (⟨"GuardCoreModel", "logic", "()V"⟩, 16), (⟨"GuardCoreModel", "joined", "(IJJ)J"⟩, 16), (⟨"GuardCoreModel", "masks", "()V"⟩, 16), (⟨"GuardCoreModel", "move", "()V"⟩, 16), (⟨"GuardCoreModel", "placeOf", "()V"⟩, 16), (⟨"GuardCoreModel", "bitsOf", "()V"⟩, 16), (⟨"GuardCoreModel", "twice", "()V"⟩, 16), (⟨"GuardCoreModel", "choose", "()V"⟩, 16), (⟨"GuardCoreModel", "holds", "(I)Z"⟩, 16), (⟨"GuardCoreModel", "compare", "()V"⟩, 16), (⟨"GuardCoreModel", "times", "()V"⟩, 16)]
theorem lw_r3 : ∀ q ∈ lw_privs_3, lw_okq q := List.forall_mem_cons.mpr ⟨lw_p32, List.forall_mem_cons.mpr ⟨lw_p33, List.forall_mem_cons.mpr ⟨lw_p34, List.forall_mem_cons.mpr ⟨lw_p35, List.forall_mem_cons.mpr ⟨lw_p36, List.forall_mem_cons.mpr ⟨lw_p37, List.forall_mem_cons.mpr ⟨lw_p38, List.forall_mem_cons.mpr ⟨lw_p39, List.forall_mem_cons.mpr ⟨lw_p40, List.forall_mem_cons.mpr ⟨lw_p41, List.forall_mem_cons.mpr ⟨lw_p42, List.forall_mem_cons.mpr ⟨lw_p43, List.forall_mem_cons.mpr ⟨lw_p44, List.forall_mem_cons.mpr ⟨lw_p45, List.forall_mem_cons.mpr ⟨lw_p46, List.forall_mem_cons.mpr ⟨lw_p47, fun _ h => absurd h List.not_mem_nil⟩⟩⟩⟩⟩⟩⟩⟩⟩⟩⟩⟩⟩⟩⟩⟩
theorem lw_p48 : lw_okq (⟨"GuardCoreModel", "highOf", "()V"⟩, 16) := ⟨⟨by decide +kernel, by decide +kernel⟩, List.mem_of_getElem? (i := 699) (by decide +kernel), List.mem_of_getElem? (i := 949) (by decide +kernel), List.mem_of_getElem? (i := 950) (by decide +kernel)⟩
theorem lw_p49 : lw_okq (⟨"GuardCoreModel", "two", "()V"⟩, 16) := ⟨⟨by decide +kernel, by decide +kernel⟩, List.mem_of_getElem? (i := 699) (by decide +kernel), List.mem_of_getElem? (i := 956) (by decide +kernel), List.mem_of_getElem? (i := 957) (by decide +kernel)⟩
theorem lw_p50 : lw_okq (⟨"GuardCoreModel", "one", "()V"⟩, 16) := ⟨⟨by decide +kernel, by decide +kernel⟩, List.mem_of_getElem? (i := 699) (by decide +kernel), List.mem_of_getElem? (i := 964) (by decide +kernel), List.mem_of_getElem? (i := 965) (by decide +kernel)⟩
theorem lw_p51 : lw_okq (⟨"GuardCoreModel", "branch", "()V"⟩, 16) := ⟨⟨by decide +kernel, by decide +kernel⟩, List.mem_of_getElem? (i := 699) (by decide +kernel), List.mem_of_getElem? (i := 969) (by decide +kernel), List.mem_of_getElem? (i := 970) (by decide +kernel)⟩
theorem lw_p52 : lw_okq (⟨"GuardCoreModel", "signed", "(II)J"⟩, 16) := ⟨⟨by decide +kernel, by decide +kernel⟩, List.mem_of_getElem? (i := 699) (by decide +kernel), List.mem_of_getElem? (i := 973) (by decide +kernel), List.mem_of_getElem? (i := 974) (by decide +kernel)⟩
theorem lw_p53 : lw_okq (⟨"GuardCoreModel", "goes", "(J)V"⟩, 16) := ⟨⟨by decide +kernel, by decide +kernel⟩, List.mem_of_getElem? (i := 699) (by decide +kernel), List.mem_of_getElem? (i := 977) (by decide +kernel), List.mem_of_getElem? (i := 978) (by decide +kernel)⟩
theorem lw_p54 : lw_okq (⟨"GuardCoreModel", "zero", "()V"⟩, 16) := ⟨⟨by decide +kernel, by decide +kernel⟩, List.mem_of_getElem? (i := 699) (by decide +kernel), List.mem_of_getElem? (i := 981) (by decide +kernel), List.mem_of_getElem? (i := 982) (by decide +kernel)⟩
theorem lw_p55 : lw_okq (⟨"GuardCoreModel", "byBit", "()V"⟩, 16) := ⟨⟨by decide +kernel, by decide +kernel⟩, List.mem_of_getElem? (i := 699) (by decide +kernel), List.mem_of_getElem? (i := 985) (by decide +kernel), List.mem_of_getElem? (i := 986) (by decide +kernel)⟩
theorem lw_p56 : lw_okq (⟨"GuardCoreModel", "toRegister", "()V"⟩, 16) := ⟨⟨by decide +kernel, by decide +kernel⟩, List.mem_of_getElem? (i := 699) (by decide +kernel), List.mem_of_getElem? (i := 989) (by decide +kernel), List.mem_of_getElem? (i := 990) (by decide +kernel)⟩
theorem lw_p57 : lw_okq (⟨"GuardCoreModel", "loads", "()V"⟩, 16) := ⟨⟨by decide +kernel, by decide +kernel⟩, List.mem_of_getElem? (i := 699) (by decide +kernel), List.mem_of_getElem? (i := 993) (by decide +kernel), List.mem_of_getElem? (i := 994) (by decide +kernel)⟩
theorem lw_p58 : lw_okq (⟨"GuardCoreModel", "baseStands", "(I)Z"⟩, 16) := ⟨⟨by decide +kernel, by decide +kernel⟩, List.mem_of_getElem? (i := 699) (by decide +kernel), List.mem_of_getElem? (i := 997) (by decide +kernel), List.mem_of_getElem? (i := 998) (by decide +kernel)⟩
theorem lw_p59 : lw_okq (⟨"GuardCoreModel", "single", "(IIJZJ)V"⟩, 16) := ⟨⟨by decide +kernel, by decide +kernel⟩, List.mem_of_getElem? (i := 699) (by decide +kernel), List.mem_of_getElem? (i := 1002) (by decide +kernel), List.mem_of_getElem? (i := 1003) (by decide +kernel)⟩
theorem lw_p60 : lw_okq (⟨"GuardCoreModel", "reaches", "(JIZ)Z"⟩, 16) := ⟨⟨by decide +kernel, by decide +kernel⟩, List.mem_of_getElem? (i := 699) (by decide +kernel), List.mem_of_getElem? (i := 1006) (by decide +kernel), List.mem_of_getElem? (i := 1007) (by decide +kernel)⟩
theorem lw_p61 : lw_okq (⟨"GuardCoreModel", "dataFault", "(JZ)V"⟩, 16) := ⟨⟨by decide +kernel, by decide +kernel⟩, List.mem_of_getElem? (i := 699) (by decide +kernel), List.mem_of_getElem? (i := 1010) (by decide +kernel), List.mem_of_getElem? (i := 1011) (by decide +kernel)⟩
theorem lw_p62 : lw_okq (⟨"GuardCoreModel", "keep", "(IJ)V"⟩, 16) := ⟨⟨by decide +kernel, by decide +kernel⟩, List.mem_of_getElem? (i := 699) (by decide +kernel), List.mem_of_getElem? (i := 1015) (by decide +kernel), List.mem_of_getElem? (i := 1016) (by decide +kernel)⟩
theorem lw_p63 : lw_okq (⟨"GuardCoreModel", "pair", "()V"⟩, 16) := ⟨⟨by decide +kernel, by decide +kernel⟩, List.mem_of_getElem? (i := 699) (by decide +kernel), List.mem_of_getElem? (i := 1019) (by decide +kernel), List.mem_of_getElem? (i := 1020) (by decide +kernel)⟩
def lw_privs_4 : List (MethodName × Nat) := [(⟨"GuardCoreModel", "highOf", "()V"⟩, 16), (⟨"GuardCoreModel", "two", "()V"⟩, 16), (⟨"GuardCoreModel", "one", "()V"⟩, 16), (⟨"GuardCoreModel", "branch", "()V"⟩, 16), (⟨"GuardCoreModel", "signed", "(II)J"⟩, 16), (⟨"GuardCoreModel", "goes", "(J)V"⟩, 16), (⟨"GuardCoreModel", "zero", "()V"⟩, 16), (⟨"GuardCoreModel", "byBit", "()V"⟩, 16), (⟨"GuardCoreModel", "toRegister", "()V"⟩, 16), (⟨"GuardCoreModel", "loads", "()V"⟩, 16), (⟨"GuardCoreModel", "baseStands", "(I)Z"⟩, 16), (⟨"GuardCoreModel", "single", "(IIJZJ)V"⟩, 16), (⟨"GuardCoreModel", "reaches", "(JIZ)Z"⟩, 16), (⟨"GuardCoreModel", "dataFault", "(JZ)V"⟩, 16), (⟨"GuardCoreModel", "keep", "(IJ)V"⟩, 16), (⟨"GuardCoreModel", "pair", "()V"⟩, 16)]
theorem lw_r4 : ∀ q ∈ lw_privs_4, lw_okq q := List.forall_mem_cons.mpr ⟨lw_p48, List.forall_mem_cons.mpr ⟨lw_p49, List.forall_mem_cons.mpr ⟨lw_p50, List.forall_mem_cons.mpr ⟨lw_p51, List.forall_mem_cons.mpr ⟨lw_p52, List.forall_mem_cons.mpr ⟨lw_p53, List.forall_mem_cons.mpr ⟨lw_p54, List.forall_mem_cons.mpr ⟨lw_p55, List.forall_mem_cons.mpr ⟨lw_p56, List.forall_mem_cons.mpr ⟨lw_p57, List.forall_mem_cons.mpr ⟨lw_p58, List.forall_mem_cons.mpr ⟨lw_p59, List.forall_mem_cons.mpr ⟨lw_p60, List.forall_mem_cons.mpr ⟨lw_p61, List.forall_mem_cons.mpr ⟨lw_p62, List.forall_mem_cons.mpr ⟨lw_p63, fun _ h => absurd h List.not_mem_nil⟩⟩⟩⟩⟩⟩⟩⟩⟩⟩⟩⟩⟩⟩⟩⟩
theorem lw_p64 : lw_okq (⟨"GuardCoreModel", "near", "()V"⟩, 16) := ⟨⟨by decide +kernel, by decide +kernel⟩, List.mem_of_getElem? (i := 699) (by decide +kernel), List.mem_of_getElem? (i := 1023) (by decide +kernel), List.mem_of_getElem? (i := 1024) (by decide +kernel)⟩
theorem lw_p65 : lw_okq (⟨"GuardCoreModel", "back", "()V"⟩, 16) := ⟨⟨by decide +kernel, by decide +kernel⟩, List.mem_of_getElem? (i := 699) (by decide +kernel), List.mem_of_getElem? (i := 1029) (by decide +kernel), List.mem_of_getElem? (i := 1030) (by decide +kernel)⟩
theorem lw_p66 : lw_okq (⟨"GuardCoreModel", "system", "()V"⟩, 16) := ⟨⟨by decide +kernel, by decide +kernel⟩, List.mem_of_getElem? (i := 699) (by decide +kernel), List.mem_of_getElem? (i := 1033) (by decide +kernel), List.mem_of_getElem? (i := 1034) (by decide +kernel)⟩
theorem lw_p67 : lw_okq (⟨"GuardCoreModel", "sets", "()V"⟩, 16) := ⟨⟨by decide +kernel, by decide +kernel⟩, List.mem_of_getElem? (i := 699) (by decide +kernel), List.mem_of_getElem? (i := 1041) (by decide +kernel), List.mem_of_getElem? (i := 1042) (by decide +kernel)⟩
def lw_privs_5 : List (MethodName × Nat) := [(⟨"GuardCoreModel", "near", "()V"⟩, 16), (⟨"GuardCoreModel", "back", "()V"⟩, 16), (⟨"GuardCoreModel", "system", "()V"⟩, 16), (⟨"GuardCoreModel", "sets", "()V"⟩, 16)]
theorem lw_r5 : ∀ q ∈ lw_privs_5, lw_okq q := List.forall_mem_cons.mpr ⟨lw_p64, List.forall_mem_cons.mpr ⟨lw_p65, List.forall_mem_cons.mpr ⟨lw_p66, List.forall_mem_cons.mpr ⟨lw_p67, fun _ h => absurd h List.not_mem_nil⟩⟩⟩⟩
def lw_privs : List (MethodName × Nat) := lw_privs_1 ++ (lw_privs_2 ++ (lw_privs_3 ++ (lw_privs_4 ++ (lw_privs_5))))
def lw_tbl : List Cond := k2_sels lw_privs ++ tables_1
theorem lw_privs_ok : ∀ q ∈ lw_privs, lw_okq q := by
  show ∀ q ∈ lw_privs_1 ++ (lw_privs_2 ++ (lw_privs_3 ++ (lw_privs_4 ++ (lw_privs_5)))), lw_okq q
  exact List.forall_mem_append.mpr ⟨lw_r1, List.forall_mem_append.mpr ⟨lw_r2, List.forall_mem_append.mpr ⟨lw_r3, List.forall_mem_append.mpr ⟨lw_r4, lw_r5⟩⟩⟩⟩
end
section
def RX0 : String := "GuardCore$Accesses"
def TX0 : u_T := fun k => match k with
  | 0 => ("GuardCore$Accesses", "memory", "LGuardCore$Memory;", true)
  | 1 => ("GuardCore$Accesses", "state", "LGuardCore$State;", true)
  | _ => ("GuardCore$Accesses", "walk", "LGuardCore$Walk;", true)
def tyX0 : Nat → FieldType := fun k => match k with
  | 0 => .object "GuardCore$Memory"
  | 1 => .object "GuardCore$State"
  | _ => .object "GuardCore$Walk"
theorem nmX0 : ∀ a, a < 3 → ∀ b, b < 3 → a ≠ b → (TX0 a).2.1 ≠ (TX0 b).2.1 := by decide +kernel
theorem tyX0_ok : ∀ k, k < 3 → parseFieldDescriptor (TX0 k).2.2.1 = some (tyX0 k) := by decide +kernel
abbrev cX0_init : ByteArray := prog_2_method_1_code
def yX0_init : MethodName := ⟨RX0, "<init>", "(LGuardCore$Memory;LGuardCore$State;LGuardCore$Walk;)V"⟩
abbrev cX0_single : ByteArray := prog_2_method_2_code
def yX0_single : MethodName := ⟨RX0, "single", "(I)Z"⟩
abbrev cX0_isSingle : ByteArray := prog_2_method_3_code
def yX0_isSingle : MethodName := ⟨RX0, "isSingle", "(I)Z"⟩
abbrev cX0_change : ByteArray := prog_2_method_4_code
def yX0_change : MethodName := ⟨RX0, "change", "(I)I"⟩
abbrev cX0_offset : ByteArray := prog_2_method_5_code
def yX0_offset : MethodName := ⟨RX0, "offset", "(I)J"⟩
abbrev cX0_extended : ByteArray := prog_2_method_6_code
def yX0_extended : MethodName := ⟨RX0, "extended", "(JII)J"⟩
abbrev cX0_pair : ByteArray := prog_2_method_7_code
def yX0_pair : MethodName := ⟨RX0, "pair", "(I)Z"⟩
abbrev cX0_near : ByteArray := prog_2_method_8_code
def yX0_near : MethodName := ⟨RX0, "near", "(I)Z"⟩
abbrev cX0_stackIsCrooked : ByteArray := prog_2_method_9_code
def yX0_stackIsCrooked : MethodName := ⟨RX0, "stackIsCrooked", "(I)Z"⟩
abbrev cX0_find : ByteArray := prog_2_method_10_code
def yX0_find : MethodName := ⟨RX0, "find", "(JIZ)I"⟩
def RX1 : String := "GuardCore$Bits"
def TX1 : u_T := fun k => match k with
  | _ => ("", "", "", false)
def tyX1 : Nat → FieldType := fun k => match k with
  | _ => .int
theorem nmX1 : ∀ a, a < 0 → ∀ b, b < 0 → a ≠ b → (TX1 a).2.1 ≠ (TX1 b).2.1 := by decide +kernel
theorem tyX1_ok : ∀ k, k < 0 → parseFieldDescriptor (TX1 k).2.2.1 = some (tyX1 k) := by decide +kernel
abbrev cX1_isOne : ByteArray := prog_3_method_2_code
def yX1_isOne : MethodName := ⟨RX1, "isOne", "(II)Z"⟩
abbrev cX1_field : ByteArray := prog_3_method_3_code
def yX1_field : MethodName := ⟨RX1, "field", "(III)I"⟩
abbrev cX1_signedField : ByteArray := prog_3_method_4_code
def yX1_signedField : MethodName := ⟨RX1, "signedField", "(III)J"⟩
abbrev cX1_narrow : ByteArray := prog_3_method_5_code
def yX1_narrow : MethodName := ⟨RX1, "narrow", "(JZ)J"⟩
abbrev cX1_width : ByteArray := prog_3_method_6_code
def yX1_width : MethodName := ⟨RX1, "width", "(Z)I"⟩
abbrev cX1_ones : ByteArray := prog_3_method_7_code
def yX1_ones : MethodName := ⟨RX1, "ones", "(I)J"⟩
abbrev cX1_moved : ByteArray := prog_3_method_8_code
def yX1_moved : MethodName := ⟨RX1, "moved", "(JIIZ)J"⟩
def RX2 : String := "GuardCore$Branches"
def TX2 : u_T := fun k => match k with
  | _ => ("GuardCore$Branches", "state", "LGuardCore$State;", true)
def tyX2 : Nat → FieldType := fun k => match k with
  | _ => .object "GuardCore$State"
theorem nmX2 : ∀ a, a < 1 → ∀ b, b < 1 → a ≠ b → (TX2 a).2.1 ≠ (TX2 b).2.1 := by decide +kernel
theorem tyX2_ok : ∀ k, k < 1 → parseFieldDescriptor (TX2 k).2.2.1 = some (tyX2 k) := by decide +kernel
abbrev cX2_init : ByteArray := prog_4_method_1_code
def yX2_init : MethodName := ⟨RX2, "<init>", "(LGuardCore$State;)V"⟩
abbrev cX2_branch : ByteArray := prog_4_method_2_code
def yX2_branch : MethodName := ⟨RX2, "branch", "(I)Z"⟩
abbrev cX2_when : ByteArray := prog_4_method_3_code
def yX2_when : MethodName := ⟨RX2, "when", "(I)Z"⟩
abbrev cX2_zero : ByteArray := prog_4_method_4_code
def yX2_zero : MethodName := ⟨RX2, "zero", "(I)Z"⟩
abbrev cX2_bit : ByteArray := prog_4_method_5_code
def yX2_bit : MethodName := ⟨RX2, "bit", "(I)Z"⟩
abbrev cX2_jump : ByteArray := prog_4_method_6_code
def yX2_jump : MethodName := ⟨RX2, "jump", "(ZJ)Z"⟩
abbrev cX2_toRegister : ByteArray := prog_4_method_7_code
def yX2_toRegister : MethodName := ⟨RX2, "toRegister", "(I)Z"⟩
def RX3 : String := "GuardCore$Control"
def TX3 : u_T := fun k => match k with
  | _ => ("GuardCore$Control", "state", "LGuardCore$State;", true)
def tyX3 : Nat → FieldType := fun k => match k with
  | _ => .object "GuardCore$State"
theorem nmX3 : ∀ a, a < 1 → ∀ b, b < 1 → a ≠ b → (TX3 a).2.1 ≠ (TX3 b).2.1 := by decide +kernel
theorem tyX3_ok : ∀ k, k < 1 → parseFieldDescriptor (TX3 k).2.2.1 = some (tyX3 k) := by decide +kernel
abbrev cX3_init : ByteArray := prog_5_method_1_code
def yX3_init : MethodName := ⟨RX3, "<init>", "(LGuardCore$State;)V"⟩
abbrev cX3_call : ByteArray := prog_5_method_2_code
def yX3_call : MethodName := ⟨RX3, "call", "(I)Z"⟩
abbrev cX3_nothing : ByteArray := prog_5_method_3_code
def yX3_nothing : MethodName := ⟨RX3, "nothing", "(I)Z"⟩
abbrev cX3_back : ByteArray := prog_5_method_4_code
def yX3_back : MethodName := ⟨RX3, "back", "(I)Z"⟩
abbrev cX3_system : ByteArray := prog_5_method_5_code
def yX3_system : MethodName := ⟨RX3, "system", "(I)Z"⟩
abbrev cX3_partOf : ByteArray := prog_5_method_6_code
def yX3_partOf : MethodName := ⟨RX3, "partOf", "(I)I"⟩
abbrev cX3_placeOf : ByteArray := prog_5_method_7_code
def yX3_placeOf : MethodName := ⟨RX3, "placeOf", "(I)I"⟩
abbrev cX3_systemWhat : ByteArray := prog_5_method_8_code
def yX3_systemWhat : MethodName := ⟨RX3, "systemWhat", "(IIZ)I"⟩
abbrev cX3_setting : ByteArray := prog_5_method_9_code
def yX3_setting : MethodName := ⟨RX3, "setting", "(I)Z"⟩
def RX4 : String := "GuardCore$Memory"
def TX4 : u_T := fun k => match k with
  | _ => ("GuardCore$Memory", "cells", "[J", true)
def tyX4 : Nat → FieldType := fun k => match k with
  | _ => .array .long
theorem nmX4 : ∀ a, a < 1 → ∀ b, b < 1 → a ≠ b → (TX4 a).2.1 ≠ (TX4 b).2.1 := by decide +kernel
theorem tyX4_ok : ∀ k, k < 1 → parseFieldDescriptor (TX4 k).2.2.1 = some (tyX4 k) := by decide +kernel
abbrev cX4_init : ByteArray := prog_6_method_1_code
def yX4_init : MethodName := ⟨RX4, "<init>", "()V"⟩
abbrev cX4_holds : ByteArray := prog_6_method_2_code
def yX4_holds : MethodName := ⟨RX4, "holds", "(JI)Z"⟩
abbrev cX4_read : ByteArray := prog_6_method_3_code
def yX4_read : MethodName := ⟨RX4, "read", "(JI)J"⟩
abbrev cX4_write : ByteArray := prog_6_method_4_code
def yX4_write : MethodName := ⟨RX4, "write", "(JIJ)V"⟩
def RX5 : String := "GuardCore$Numbers"
def TX5 : u_T := fun k => match k with
  | 0 => ("GuardCore$Numbers", "state", "LGuardCore$State;", true)
  | _ => ("GuardCore$Numbers", "sums", "LGuardCore$Sums;", true)
def tyX5 : Nat → FieldType := fun k => match k with
  | 0 => .object "GuardCore$State"
  | _ => .object "GuardCore$Sums"
theorem nmX5 : ∀ a, a < 2 → ∀ b, b < 2 → a ≠ b → (TX5 a).2.1 ≠ (TX5 b).2.1 := by decide +kernel
theorem tyX5_ok : ∀ k, k < 2 → parseFieldDescriptor (TX5 k).2.2.1 = some (tyX5 k) := by decide +kernel
abbrev cX5_init : ByteArray := prog_7_method_1_code
def yX5_init : MethodName := ⟨RX5, "<init>", "(LGuardCore$State;LGuardCore$Sums;)V"⟩
abbrev cX5_number : ByteArray := prog_7_method_2_code
def yX5_number : MethodName := ⟨RX5, "number", "(I)Z"⟩
abbrev cX5_masks : ByteArray := prog_7_method_3_code
def yX5_masks : MethodName := ⟨RX5, "masks", "(I)Z"⟩
abbrev cX5_mask : ByteArray := prog_7_method_4_code
def yX5_mask : MethodName := ⟨RX5, "mask", "(I)J"⟩
abbrev cX5_move : ByteArray := prog_7_method_5_code
def yX5_move : MethodName := ⟨RX5, "move", "(I)Z"⟩
abbrev cX5_place : ByteArray := prog_7_method_6_code
def yX5_place : MethodName := ⟨RX5, "place", "(I)Z"⟩
abbrev cX5_bits : ByteArray := prog_7_method_7_code
def yX5_bits : MethodName := ⟨RX5, "bits", "(I)Z"⟩
abbrev cX5_twice : ByteArray := prog_7_method_8_code
def yX5_twice : MethodName := ⟨RX5, "twice", "(I)Z"⟩
def RX6 : String := "GuardCore$Processor"
def TX6 : u_T := fun k => match k with
  | 0 => ("GuardCore$Processor", "memory", "LGuardCore$Memory;", true)
  | 1 => ("GuardCore$Processor", "state", "LGuardCore$State;", true)
  | 2 => ("GuardCore$Processor", "walk", "LGuardCore$Walk;", true)
  | 3 => ("GuardCore$Processor", "numbers", "LGuardCore$Numbers;", true)
  | 4 => ("GuardCore$Processor", "registers", "LGuardCore$Registers;", true)
  | 5 => ("GuardCore$Processor", "accesses", "LGuardCore$Accesses;", true)
  | 6 => ("GuardCore$Processor", "branches", "LGuardCore$Branches;", true)
  | 7 => ("GuardCore$Processor", "control", "LGuardCore$Control;", true)
  | _ => ("GuardCore$Processor", "word", "I", false)
def tyX6 : Nat → FieldType := fun k => match k with
  | 0 => .object "GuardCore$Memory"
  | 1 => .object "GuardCore$State"
  | 2 => .object "GuardCore$Walk"
  | 3 => .object "GuardCore$Numbers"
  | 4 => .object "GuardCore$Registers"
  | 5 => .object "GuardCore$Accesses"
  | 6 => .object "GuardCore$Branches"
  | 7 => .object "GuardCore$Control"
  | _ => .int
theorem nmX6 : ∀ a, a < 9 → ∀ b, b < 9 → a ≠ b → (TX6 a).2.1 ≠ (TX6 b).2.1 := by decide +kernel
theorem tyX6_ok : ∀ k, k < 9 → parseFieldDescriptor (TX6 k).2.2.1 = some (tyX6 k) := by decide +kernel
abbrev cX6_init : ByteArray := prog_8_method_1_code
def yX6_init : MethodName := ⟨RX6, "<init>", "(LGuardCore$Memory;LGuardCore$State;LGuardCore$Walk;)V"⟩
abbrev cX6_fetches : ByteArray := prog_8_method_2_code
def yX6_fetches : MethodName := ⟨RX6, "fetches", "()Z"⟩
abbrev cX6_performs : ByteArray := prog_8_method_3_code
def yX6_performs : MethodName := ⟨RX6, "performs", "()Z"⟩
abbrev cX6_performsBranch : ByteArray := prog_8_method_4_code
def yX6_performsBranch : MethodName := ⟨RX6, "performsBranch", "()Z"⟩
abbrev cX6_performsControl : ByteArray := prog_8_method_5_code
def yX6_performsControl : MethodName := ⟨RX6, "performsControl", "()Z"⟩
abbrev cX6_performsRegisters : ByteArray := prog_8_method_6_code
def yX6_performsRegisters : MethodName := ⟨RX6, "performsRegisters", "()Z"⟩
def RX7 : String := "GuardCore$Registers"
def TX7 : u_T := fun k => match k with
  | 0 => ("GuardCore$Registers", "state", "LGuardCore$State;", true)
  | _ => ("GuardCore$Registers", "sums", "LGuardCore$Sums;", true)
def tyX7 : Nat → FieldType := fun k => match k with
  | 0 => .object "GuardCore$State"
  | _ => .object "GuardCore$Sums"
theorem nmX7 : ∀ a, a < 2 → ∀ b, b < 2 → a ≠ b → (TX7 a).2.1 ≠ (TX7 b).2.1 := by decide +kernel
theorem tyX7_ok : ∀ k, k < 2 → parseFieldDescriptor (TX7 k).2.2.1 = some (tyX7 k) := by decide +kernel
abbrev cX7_init : ByteArray := prog_9_method_1_code
def yX7_init : MethodName := ⟨RX7, "<init>", "(LGuardCore$State;LGuardCore$Sums;)V"⟩
abbrev cX7_left : ByteArray := prog_9_method_2_code
def yX7_left : MethodName := ⟨RX7, "left", "(I)J"⟩
abbrev cX7_right : ByteArray := prog_9_method_3_code
def yX7_right : MethodName := ⟨RX7, "right", "(I)J"⟩
abbrev cX7_put : ByteArray := prog_9_method_4_code
def yX7_put : MethodName := ⟨RX7, "put", "(IJ)Z"⟩
abbrev cX7_sum : ByteArray := prog_9_method_5_code
def yX7_sum : MethodName := ⟨RX7, "sum", "(I)Z"⟩
abbrev cX7_logic : ByteArray := prog_9_method_6_code
def yX7_logic : MethodName := ⟨RX7, "logic", "(I)Z"⟩
abbrev cX7_choose : ByteArray := prog_9_method_7_code
def yX7_choose : MethodName := ⟨RX7, "choose", "(I)Z"⟩
abbrev cX7_compare : ByteArray := prog_9_method_8_code
def yX7_compare : MethodName := ⟨RX7, "compare", "(I)Z"⟩
abbrev cX7_times : ByteArray := prog_9_method_9_code
def yX7_times : MethodName := ⟨RX7, "times", "(I)Z"⟩
abbrev cX7_upperTimes : ByteArray := prog_9_method_10_code
def yX7_upperTimes : MethodName := ⟨RX7, "upperTimes", "(I)Z"⟩
abbrev cX7_two : ByteArray := prog_9_method_11_code
def yX7_two : MethodName := ⟨RX7, "two", "(I)Z"⟩
abbrev cX7_quotient : ByteArray := prog_9_method_12_code
def yX7_quotient : MethodName := ⟨RX7, "quotient", "(JJ)J"⟩
abbrev cX7_signedQuotient : ByteArray := prog_9_method_13_code
def yX7_signedQuotient : MethodName := ⟨RX7, "signedQuotient", "(JJZ)J"⟩
abbrev cX7_one : ByteArray := prog_9_method_14_code
def yX7_one : MethodName := ⟨RX7, "one", "(I)Z"⟩
abbrev cX7_bytesOfPairs : ByteArray := prog_9_method_15_code
def yX7_bytesOfPairs : MethodName := ⟨RX7, "bytesOfPairs", "(J)J"⟩
abbrev cX7_bytesOfFours : ByteArray := prog_9_method_16_code
def yX7_bytesOfFours : MethodName := ⟨RX7, "bytesOfFours", "(J)J"⟩
abbrev cX7_zerosAbove : ByteArray := prog_9_method_17_code
def yX7_zerosAbove : MethodName := ⟨RX7, "zerosAbove", "(JZ)J"⟩
abbrev cX7_likeTheHighest : ByteArray := prog_9_method_18_code
def yX7_likeTheHighest : MethodName := ⟨RX7, "likeTheHighest", "(JZ)J"⟩
def RX8 : String := "GuardCore$State"
def TX8 : u_T := fun k => match k with
  | 0 => ("GuardCore$State", "parts", "[J", true)
  | 1 => ("GuardCore$State", "interrupted", "Z", false)
  | 2 => ("GuardCore$State", "next", "J", false)
  | _ => ("GuardCore$State", "taken", "I", false)
def tyX8 : Nat → FieldType := fun k => match k with
  | 0 => .array .long
  | 1 => .boolean
  | 2 => .long
  | _ => .int
theorem nmX8 : ∀ a, a < 4 → ∀ b, b < 4 → a ≠ b → (TX8 a).2.1 ≠ (TX8 b).2.1 := by decide +kernel
theorem tyX8_ok : ∀ k, k < 4 → parseFieldDescriptor (TX8 k).2.2.1 = some (tyX8 k) := by decide +kernel
abbrev cX8_init : ByteArray := prog_10_method_1_code
def yX8_init : MethodName := ⟨RX8, "<init>", "()V"⟩
abbrev cX8_part : ByteArray := prog_10_method_2_code
def yX8_part : MethodName := ⟨RX8, "part", "(I)J"⟩
abbrev cX8_putPart : ByteArray := prog_10_method_3_code
def yX8_putPart : MethodName := ⟨RX8, "putPart", "(IJ)Z"⟩
abbrev cX8_register : ByteArray := prog_10_method_4_code
def yX8_register : MethodName := ⟨RX8, "register", "(I)J"⟩
abbrev cX8_putRegister : ByteArray := prog_10_method_5_code
def yX8_putRegister : MethodName := ⟨RX8, "putRegister", "(IJ)V"⟩
abbrev cX8_registerOrStack : ByteArray := prog_10_method_6_code
def yX8_registerOrStack : MethodName := ⟨RX8, "registerOrStack", "(I)J"⟩
abbrev cX8_putRegisterOrStack : ByteArray := prog_10_method_7_code
def yX8_putRegisterOrStack : MethodName := ⟨RX8, "putRegisterOrStack", "(IJ)V"⟩
abbrev cX8_stack : ByteArray := prog_10_method_8_code
def yX8_stack : MethodName := ⟨RX8, "stack", "()I"⟩
abbrev cX8_level : ByteArray := prog_10_method_9_code
def yX8_level : MethodName := ⟨RX8, "level", "()I"⟩
abbrev cX8_pc : ByteArray := prog_10_method_10_code
def yX8_pc : MethodName := ⟨RX8, "pc", "()J"⟩
abbrev cX8_meets : ByteArray := prog_10_method_11_code
def yX8_meets : MethodName := ⟨RX8, "meets", "(I)Z"⟩
abbrev cX8_putInterrupt : ByteArray := prog_10_method_12_code
def yX8_putInterrupt : MethodName := ⟨RX8, "putInterrupt", "(Z)V"⟩
abbrev cX8_isInterruptDue : ByteArray := prog_10_method_13_code
def yX8_isInterruptDue : MethodName := ⟨RX8, "isInterruptDue", "()Z"⟩
abbrev cX8_taken : ByteArray := prog_10_method_14_code
def yX8_taken : MethodName := ⟨RX8, "taken", "()I"⟩
abbrev cX8_begin : ByteArray := prog_10_method_15_code
def yX8_begin : MethodName := ⟨RX8, "begin", "()V"⟩
abbrev cX8_goTo : ByteArray := prog_10_method_16_code
def yX8_goTo : MethodName := ⟨RX8, "goTo", "(J)V"⟩
abbrev cX8_finish : ByteArray := prog_10_method_17_code
def yX8_finish : MethodName := ⟨RX8, "finish", "()V"⟩
abbrev cX8_takeInterrupt : ByteArray := prog_10_method_18_code
def yX8_takeInterrupt : MethodName := ⟨RX8, "takeInterrupt", "()V"⟩
abbrev cX8_raise : ByteArray := prog_10_method_19_code
def yX8_raise : MethodName := ⟨RX8, "raise", "(II)V"⟩
abbrev cX8_raiseAt : ByteArray := prog_10_method_20_code
def yX8_raiseAt : MethodName := ⟨RX8, "raiseAt", "(JII)V"⟩
abbrev cX8_raiseBehind : ByteArray := prog_10_method_21_code
def yX8_raiseBehind : MethodName := ⟨RX8, "raiseBehind", "(II)V"⟩
abbrev cX8_tell : ByteArray := prog_10_method_22_code
def yX8_tell : MethodName := ⟨RX8, "tell", "(II)V"⟩
abbrev cX8_enter : ByteArray := prog_10_method_23_code
def yX8_enter : MethodName := ⟨RX8, "enter", "(JI)V"⟩
def RX9 : String := "GuardCore$Sums"
def TX9 : u_T := fun k => match k with
  | _ => ("GuardCore$Sums", "state", "LGuardCore$State;", true)
def tyX9 : Nat → FieldType := fun k => match k with
  | _ => .object "GuardCore$State"
theorem nmX9 : ∀ a, a < 1 → ∀ b, b < 1 → a ≠ b → (TX9 a).2.1 ≠ (TX9 b).2.1 := by decide +kernel
theorem tyX9_ok : ∀ k, k < 1 → parseFieldDescriptor (TX9 k).2.2.1 = some (tyX9 k) := by decide +kernel
abbrev cX9_init : ByteArray := prog_11_method_1_code
def yX9_init : MethodName := ⟨RX9, "<init>", "(LGuardCore$State;)V"⟩
abbrev cX9_sum : ByteArray := prog_11_method_2_code
def yX9_sum : MethodName := ⟨RX9, "sum", "(JJZZZ)J"⟩
abbrev cX9_logic : ByteArray := prog_11_method_3_code
def yX9_logic : MethodName := ⟨RX9, "logic", "(JJIZ)J"⟩
abbrev cX9_signAndZero : ByteArray := prog_11_method_4_code
def yX9_signAndZero : MethodName := ⟨RX9, "signAndZero", "(JZ)J"⟩
def RX10 : String := "GuardCore$Walk"
def TX10 : u_T := fun k => match k with
  | 0 => ("GuardCore$Walk", "memory", "LGuardCore$Memory;", true)
  | _ => ("GuardCore$Walk", "state", "LGuardCore$State;", true)
def tyX10 : Nat → FieldType := fun k => match k with
  | 0 => .object "GuardCore$Memory"
  | _ => .object "GuardCore$State"
theorem nmX10 : ∀ a, a < 2 → ∀ b, b < 2 → a ≠ b → (TX10 a).2.1 ≠ (TX10 b).2.1 := by decide +kernel
theorem tyX10_ok : ∀ k, k < 2 → parseFieldDescriptor (TX10 k).2.2.1 = some (tyX10 k) := by decide +kernel
abbrev cX10_init : ByteArray := prog_12_method_1_code
def yX10_init : MethodName := ⟨RX10, "<init>", "(LGuardCore$Memory;LGuardCore$State;)V"⟩
abbrev cX10_find : ByteArray := prog_12_method_2_code
def yX10_find : MethodName := ⟨RX10, "find", "(JIII)I"⟩
abbrev cX10_translated : ByteArray := prog_12_method_3_code
def yX10_translated : MethodName := ⟨RX10, "translated", "(JII)J"⟩
abbrev cX10_fault : ByteArray := prog_12_method_4_code
def yX10_fault : MethodName := ⟨RX10, "fault", "(JII)I"⟩
abbrev cX10_permits : ByteArray := prog_12_method_5_code
def yX10_permits : MethodName := ⟨RX10, "permits", "(JII)Z"⟩
def RX11 : String := "GuardCore"
def TX11 : u_T := fun k => match k with
  | 0 => ("GuardCore", "memory", "LGuardCore$Memory;", true)
  | 1 => ("GuardCore", "state", "LGuardCore$State;", true)
  | 2 => ("GuardCore", "walk", "LGuardCore$Walk;", true)
  | _ => ("GuardCore", "processor", "LGuardCore$Processor;", true)
def tyX11 : Nat → FieldType := fun k => match k with
  | 0 => .object "GuardCore$Memory"
  | 1 => .object "GuardCore$State"
  | 2 => .object "GuardCore$Walk"
  | _ => .object "GuardCore$Processor"
theorem nmX11 : ∀ a, a < 4 → ∀ b, b < 4 → a ≠ b → (TX11 a).2.1 ≠ (TX11 b).2.1 := by decide +kernel
theorem tyX11_ok : ∀ k, k < 4 → parseFieldDescriptor (TX11 k).2.2.1 = some (tyX11 k) := by decide +kernel
abbrev cX11_init : ByteArray := prog_1_method_1_code
def yX11_init : MethodName := ⟨RX11, "<init>", "()V"⟩
abbrev cX11_poke : ByteArray := prog_1_method_2_code
def yX11_poke : MethodName := ⟨RX11, "poke", "(II)Z"⟩
abbrev cX11_peek : ByteArray := prog_1_method_3_code
def yX11_peek : MethodName := ⟨RX11, "peek", "(I)I"⟩
abbrev cX11_set : ByteArray := prog_1_method_4_code
def yX11_set : MethodName := ⟨RX11, "set", "(III)Z"⟩
abbrev cX11_low : ByteArray := prog_1_method_5_code
def yX11_low : MethodName := ⟨RX11, "low", "(I)I"⟩
abbrev cX11_high : ByteArray := prog_1_method_6_code
def yX11_high : MethodName := ⟨RX11, "high", "(I)I"⟩
abbrev cX11_interrupt : ByteArray := prog_1_method_7_code
def yX11_interrupt : MethodName := ⟨RX11, "interrupt", "(Z)V"⟩
abbrev cX11_step : ByteArray := prog_1_method_8_code
def yX11_step : MethodName := ⟨RX11, "step", "(I)I"⟩
abbrev cX11_look : ByteArray := prog_1_method_9_code
def yX11_look : MethodName := ⟨RX11, "look", "(IIII)I"⟩
abbrev cX11_isWordPlace : ByteArray := prog_1_method_10_code
def yX11_isWordPlace : MethodName := ⟨RX11, "isWordPlace", "(I)Z"⟩
def RX12 : String := "GuardCoreModel"
def TX12 : u_T := fun k => match k with
  | 0 => ("GuardCoreModel", "thrownCode", "I", false)
  | 1 => ("GuardCoreModel", "mem", "[I", true)
  | 2 => ("GuardCoreModel", "x", "[J", true)
  | 3 => ("GuardCoreModel", "state", "[J", true)
  | 4 => ("GuardCoreModel", "flags", "I", false)
  | 5 => ("GuardCoreModel", "level", "I", false)
  | 6 => ("GuardCoreModel", "select", "I", false)
  | 7 => ("GuardCoreModel", "masked", "I", false)
  | 8 => ("GuardCoreModel", "calls", "Z", false)
  | 9 => ("GuardCoreModel", "faultWhat", "I", false)
  | 10 => ("GuardCoreModel", "place", "J", false)
  | 11 => ("GuardCoreModel", "taken", "I", false)
  | 12 => ("GuardCoreModel", "carry", "I", false)
  | 13 => ("GuardCoreModel", "over", "I", false)
  | 14 => ("GuardCoreModel", "ins", "I", false)
  | _ => ("GuardCoreModel", "asked", "Z", false)
def tyX12 : Nat → FieldType := fun k => match k with
  | 0 => .int
  | 1 => .array .int
  | 2 => .array .long
  | 3 => .array .long
  | 4 => .int
  | 5 => .int
  | 6 => .int
  | 7 => .int
  | 8 => .boolean
  | 9 => .int
  | 10 => .long
  | 11 => .int
  | 12 => .int
  | 13 => .int
  | 14 => .int
  | _ => .boolean
theorem nmX12 : ∀ a, a < 16 → ∀ b, b < 16 → a ≠ b → (TX12 a).2.1 ≠ (TX12 b).2.1 := by decide +kernel
theorem tyX12_ok : ∀ k, k < 16 → parseFieldDescriptor (TX12 k).2.2.1 = some (tyX12 k) := by decide +kernel
abbrev cX12_init : ByteArray := prog_14_method_1_code
def yX12_init : MethodName := ⟨RX12, "<init>", "()V"⟩
abbrev cX12_poke : ByteArray := prog_14_method_3_code
def yX12_poke : MethodName := ⟨RX12, "poke", "(II)Z"⟩
abbrev cX12_peek : ByteArray := prog_14_method_4_code
def yX12_peek : MethodName := ⟨RX12, "peek", "(I)I"⟩
abbrev cX12_bytes : ByteArray := prog_14_method_5_code
def yX12_bytes : MethodName := ⟨RX12, "bytes", "(II)J"⟩
abbrev cX12_isBelow : ByteArray := prog_14_method_6_code
def yX12_isBelow : MethodName := ⟨RX12, "isBelow", "(JJ)Z"⟩
abbrev cX12_wrong : ByteArray := prog_14_method_7_code
def yX12_wrong : MethodName := ⟨RX12, "wrong", "(I)Z"⟩
abbrev cX12_bit : ByteArray := prog_14_method_8_code
def yX12_bit : MethodName := ⟨RX12, "bit", "(JI)Z"⟩
abbrev cX12_bits : ByteArray := prog_14_method_9_code
def yX12_bits : MethodName := ⟨RX12, "bits", "(JII)J"⟩
abbrev cX12_leads : ByteArray := prog_14_method_10_code
def yX12_leads : MethodName := ⟨RX12, "leads", "(JII)Z"⟩
abbrev cX12_inside : ByteArray := prog_14_method_11_code
def yX12_inside : MethodName := ⟨RX12, "inside", "(I)Z"⟩
abbrev cX12_enters : ByteArray := prog_14_method_12_code
def yX12_enters : MethodName := ⟨RX12, "enters", "(JZ)V"⟩
abbrev cX12_exception : ByteArray := prog_14_method_13_code
def yX12_exception : MethodName := ⟨RX12, "exception", "(IJJ)V"⟩
abbrev cX12_none : ByteArray := prog_14_method_14_code
def yX12_none : MethodName := ⟨RX12, "none", "()V"⟩
abbrev cX12_dataFault : ByteArray := prog_14_method_15_code
def yX12_dataFault : MethodName := ⟨RX12, "dataFault", "(JZ)V"⟩
abbrev cX12_pointer : ByteArray := prog_14_method_16_code
def yX12_pointer : MethodName := ⟨RX12, "pointer", "()I"⟩
abbrev cX12_reg : ByteArray := prog_14_method_17_code
def yX12_reg : MethodName := ⟨RX12, "reg", "(I)J"⟩
abbrev cX12_regOrPointer : ByteArray := prog_14_method_18_code
def yX12_regOrPointer : MethodName := ⟨RX12, "regOrPointer", "(I)J"⟩
abbrev cX12_put : ByteArray := prog_14_method_19_code
def yX12_put : MethodName := ⟨RX12, "put", "(IJ)V"⟩
abbrev cX12_putOrPointer : ByteArray := prog_14_method_20_code
def yX12_putOrPointer : MethodName := ⟨RX12, "putOrPointer", "(IJ)V"⟩
abbrev cX12_cut : ByteArray := prog_14_method_21_code
def yX12_cut : MethodName := ⟨RX12, "cut", "(JI)J"⟩
abbrev cX12_sum : ByteArray := prog_14_method_22_code
def yX12_sum : MethodName := ⟨RX12, "sum", "(JJII)J"⟩
abbrev cX12_signs : ByteArray := prog_14_method_23_code
def yX12_signs : MethodName := ⟨RX12, "signs", "(JIII)V"⟩
abbrev cX12_moved : ByteArray := prog_14_method_24_code
def yX12_moved : MethodName := ⟨RX12, "moved", "(JIII)J"⟩
abbrev cX12_extend : ByteArray := prog_14_method_25_code
def yX12_extend : MethodName := ⟨RX12, "extend", "(JI)J"⟩
abbrev cX12_holds : ByteArray := prog_14_method_26_code
def yX12_holds : MethodName := ⟨RX12, "holds", "(I)Z"⟩
abbrev cX12_f : ByteArray := prog_14_method_27_code
def yX12_f : MethodName := ⟨RX12, "f", "(II)I"⟩
abbrev cX12_on : ByteArray := prog_14_method_28_code
def yX12_on : MethodName := ⟨RX12, "on", "(I)Z"⟩
abbrev cX12_width : ByteArray := prog_14_method_29_code
def yX12_width : MethodName := ⟨RX12, "width", "()I"⟩
abbrev cX12_signed : ByteArray := prog_14_method_30_code
def yX12_signed : MethodName := ⟨RX12, "signed", "(II)J"⟩
abbrev cX12_number : ByteArray := prog_14_method_31_code
def yX12_number : MethodName := ⟨RX12, "number", "()V"⟩
abbrev cX12_sums : ByteArray := prog_14_method_32_code
def yX12_sums : MethodName := ⟨RX12, "sums", "()V"⟩
abbrev cX12_joined : ByteArray := prog_14_method_33_code
def yX12_joined : MethodName := ⟨RX12, "joined", "(IJJ)J"⟩
abbrev cX12_logic : ByteArray := prog_14_method_34_code
def yX12_logic : MethodName := ⟨RX12, "logic", "()V"⟩
abbrev cX12_masks : ByteArray := prog_14_method_35_code
def yX12_masks : MethodName := ⟨RX12, "masks", "()V"⟩
abbrev cX12_move : ByteArray := prog_14_method_36_code
def yX12_move : MethodName := ⟨RX12, "move", "()V"⟩
abbrev cX12_placeOf : ByteArray := prog_14_method_37_code
def yX12_placeOf : MethodName := ⟨RX12, "placeOf", "()V"⟩
abbrev cX12_bitsOf : ByteArray := prog_14_method_38_code
def yX12_bitsOf : MethodName := ⟨RX12, "bitsOf", "()V"⟩
abbrev cX12_twice : ByteArray := prog_14_method_39_code
def yX12_twice : MethodName := ⟨RX12, "twice", "()V"⟩
abbrev cX12_choose : ByteArray := prog_14_method_40_code
def yX12_choose : MethodName := ⟨RX12, "choose", "()V"⟩
abbrev cX12_compare : ByteArray := prog_14_method_41_code
def yX12_compare : MethodName := ⟨RX12, "compare", "()V"⟩
abbrev cX12_times : ByteArray := prog_14_method_42_code
def yX12_times : MethodName := ⟨RX12, "times", "()V"⟩
abbrev cX12_upper : ByteArray := prog_14_method_43_code
def yX12_upper : MethodName := ⟨RX12, "upper", "(JJ)J"⟩
abbrev cX12_highOf : ByteArray := prog_14_method_44_code
def yX12_highOf : MethodName := ⟨RX12, "highOf", "()V"⟩
abbrev cX12_quotient : ByteArray := prog_14_method_45_code
def yX12_quotient : MethodName := ⟨RX12, "quotient", "(JJI)J"⟩
abbrev cX12_two : ByteArray := prog_14_method_46_code
def yX12_two : MethodName := ⟨RX12, "two", "()V"⟩
abbrev cX12_one : ByteArray := prog_14_method_47_code
def yX12_one : MethodName := ⟨RX12, "one", "()V"⟩
abbrev cX12_goes : ByteArray := prog_14_method_48_code
def yX12_goes : MethodName := ⟨RX12, "goes", "(J)V"⟩
abbrev cX12_branch : ByteArray := prog_14_method_49_code
def yX12_branch : MethodName := ⟨RX12, "branch", "()V"⟩
abbrev cX12_zero : ByteArray := prog_14_method_50_code
def yX12_zero : MethodName := ⟨RX12, "zero", "()V"⟩
abbrev cX12_byBit : ByteArray := prog_14_method_51_code
def yX12_byBit : MethodName := ⟨RX12, "byBit", "()V"⟩
abbrev cX12_toRegister : ByteArray := prog_14_method_52_code
def yX12_toRegister : MethodName := ⟨RX12, "toRegister", "()V"⟩
abbrev cX12_baseStands : ByteArray := prog_14_method_53_code
def yX12_baseStands : MethodName := ⟨RX12, "baseStands", "(I)Z"⟩
abbrev cX12_reaches : ByteArray := prog_14_method_54_code
def yX12_reaches : MethodName := ⟨RX12, "reaches", "(JIZ)Z"⟩
abbrev cX12_keep : ByteArray := prog_14_method_55_code
def yX12_keep : MethodName := ⟨RX12, "keep", "(IJ)V"⟩
abbrev cX12_single : ByteArray := prog_14_method_56_code
def yX12_single : MethodName := ⟨RX12, "single", "(IIJZJ)V"⟩
abbrev cX12_loads : ByteArray := prog_14_method_57_code
def yX12_loads : MethodName := ⟨RX12, "loads", "()V"⟩
abbrev cX12_pair : ByteArray := prog_14_method_58_code
def yX12_pair : MethodName := ⟨RX12, "pair", "()V"⟩
abbrev cX12_near : ByteArray := prog_14_method_59_code
def yX12_near : MethodName := ⟨RX12, "near", "()V"⟩
abbrev cX12_back : ByteArray := prog_14_method_60_code
def yX12_back : MethodName := ⟨RX12, "back", "()V"⟩
abbrev cX12_slot : ByteArray := prog_14_method_61_code
def yX12_slot : MethodName := ⟨RX12, "slot", "(I)I"⟩
abbrev cX12_system : ByteArray := prog_14_method_62_code
def yX12_system : MethodName := ⟨RX12, "system", "()V"⟩
abbrev cX12_sets : ByteArray := prog_14_method_63_code
def yX12_sets : MethodName := ⟨RX12, "sets", "()V"⟩
abbrev cX12_does : ByteArray := prog_14_method_64_code
def yX12_does : MethodName := ⟨RX12, "does", "()V"⟩
abbrev cX12_oneStep : ByteArray := prog_14_method_65_code
def yX12_oneStep : MethodName := ⟨RX12, "oneStep", "()V"⟩
abbrev cX12_set : ByteArray := prog_14_method_66_code
def yX12_set : MethodName := ⟨RX12, "set", "(III)Z"⟩
abbrev cX12_part : ByteArray := prog_14_method_67_code
def yX12_part : MethodName := ⟨RX12, "part", "(I)J"⟩
abbrev cX12_low : ByteArray := prog_14_method_68_code
def yX12_low : MethodName := ⟨RX12, "low", "(I)I"⟩
abbrev cX12_high : ByteArray := prog_14_method_69_code
def yX12_high : MethodName := ⟨RX12, "high", "(I)I"⟩
abbrev cX12_interrupt : ByteArray := prog_14_method_70_code
def yX12_interrupt : MethodName := ⟨RX12, "interrupt", "(Z)V"⟩
abbrev cX12_step : ByteArray := prog_14_method_71_code
def yX12_step : MethodName := ⟨RX12, "step", "(I)I"⟩
abbrev cX12_look : ByteArray := prog_14_method_72_code
def yX12_look : MethodName := ⟨RX12, "look", "(IIII)I"⟩
def RJ6 : String := "java/lang/Integer"
def TJ6 : u_T := fun k => match k with
  | _ => ("", "", "", false)
def tyJ6 : Nat → FieldType := fun k => match k with
  | _ => .int
theorem nmJ6 : ∀ a, a < 0 → ∀ b, b < 0 → a ≠ b → (TJ6 a).2.1 ≠ (TJ6 b).2.1 := by decide +kernel
theorem tyJ6_ok : ∀ k, k < 0 → parseFieldDescriptor (TJ6 k).2.2.1 = some (tyJ6 k) := by decide +kernel
abbrev cJ6_highestOneBit_0f7a4 : ByteArray := prog_15_method_45_code
def yJ6_highestOneBit_0f7a4 : MethodName := ⟨RJ6, "highestOneBit", "(I)I"⟩
abbrev cJ6_numberOfLeadingZeros_0f7a4 : ByteArray := prog_15_method_47_code
def yJ6_numberOfLeadingZeros_0f7a4 : MethodName := ⟨RJ6, "numberOfLeadingZeros", "(I)I"⟩
abbrev cJ6_rotateRight_7cf53 : ByteArray := prog_15_method_51_code
def yJ6_rotateRight_7cf53 : MethodName := ⟨RJ6, "rotateRight", "(II)I"⟩
def RJ13 : String := "java/lang/Long"
def TJ13 : u_T := fun k => match k with
  | _ => ("", "", "", false)
def tyJ13 : Nat → FieldType := fun k => match k with
  | _ => .int
theorem nmJ13 : ∀ a, a < 0 → ∀ b, b < 0 → a ≠ b → (TJ13 a).2.1 ≠ (TJ13 b).2.1 := by decide +kernel
theorem tyJ13_ok : ∀ k, k < 0 → parseFieldDescriptor (TJ13 k).2.2.1 = some (tyJ13 k) := by decide +kernel
abbrev cJ13_compare_74951 : ByteArray := prog_16_method_42_code
def yJ13_compare_74951 : MethodName := ⟨RJ13, "compare", "(JJ)I"⟩
abbrev cJ13_compareUnsigned_74951 : ByteArray := prog_16_method_43_code
def yJ13_compareUnsigned_74951 : MethodName := ⟨RJ13, "compareUnsigned", "(JJ)I"⟩
abbrev cJ13_numberOfLeadingZeros_95d88 : ByteArray := prog_16_method_48_code
def yJ13_numberOfLeadingZeros_95d88 : MethodName := ⟨RJ13, "numberOfLeadingZeros", "(J)I"⟩
abbrev cJ13_rotateRight_b2ac5 : ByteArray := prog_16_method_52_code
def yJ13_rotateRight_b2ac5 : MethodName := ⟨RJ13, "rotateRight", "(JI)J"⟩
abbrev cJ13_reverse_067f4 : ByteArray := prog_16_method_53_code
def yJ13_reverse_067f4 : MethodName := ⟨RJ13, "reverse", "(J)J"⟩
abbrev cJ13_reverseBytes_067f4 : ByteArray := prog_16_method_58_code
def yJ13_reverseBytes_067f4 : MethodName := ⟨RJ13, "reverseBytes", "(J)J"⟩
def RJ9 : String := "java/lang/Math"
def TJ9 : u_T := fun k => match k with
  | _ => ("", "", "", false)
def tyJ9 : Nat → FieldType := fun k => match k with
  | _ => .int
theorem nmJ9 : ∀ a, a < 0 → ∀ b, b < 0 → a ≠ b → (TJ9 a).2.1 ≠ (TJ9 b).2.1 := by decide +kernel
theorem tyJ9_ok : ∀ k, k < 0 → parseFieldDescriptor (TJ9 k).2.2.1 = some (tyJ9 k) := by decide +kernel
abbrev cJ9_multiplyHigh_f86c9 : ByteArray := prog_17_method_45_code
def yJ9_multiplyHigh_f86c9 : MethodName := ⟨RJ9, "multiplyHigh", "(JJ)J"⟩
def RL : String := "GuardCoreLaw"
abbrev cL_law : ByteArray := code
def yL_law : MethodName := ⟨RL, "law", "([I)Z"⟩
abbrev vwCl : List vw_C := [(RX0, TX0, 3), (RX2, TX2, 1), (RX3, TX3, 1), (RX4, TX4, 1), (RX5, TX5, 2), (RX6, TX6, 9), (RX7, TX7, 2), (RX8, TX8, 4), (RX9, TX9, 1), (RX10, TX10, 2), (RX11, TX11, 4), (RX12, TX12, 16)]
end
section
def zB (b : Bool) : Int32 := if b = true then 1 else 0
theorem zB_t : zB true = 1 := rfl
theorem zB_f : zB false = 0 := rfl
theorem zB_nar (b : Bool) : narrow .boolean (.int (zB b)) = .int (zB b) := by cases b <;> decide +kernel
theorem zB_fit (b : Bool) : fits .boolean (.int (zB b)) = true := by cases b <;> decide +kernel
theorem zB_0 {b : Bool} (h : zB b = 0) : ¬ b = true := by
  cases b
  · decide
  · exact absurd h (by decide)
theorem zB_1 {b : Bool} (h : ¬ zB b = 0) : b = true := by
  cases b
  · exact absurd rfl h
  · rfl
def tbG : List Cond := lw_tbl.filter goodWord
theorem tbG_lw {args : Array Value} {s : State} (h : ∀ w ∈ lw_tbl, w.before args s = true) : ∀ w ∈ tbG, w.before args s = true := fun w hw => h w (List.mem_filter.mp hw).1
theorem tb_good : GoodIn tbG tbG := fun w hw => ⟨hw, good_of_word (List.mem_filter.mp hw).2⟩
abbrev wsC (y : MethodName) (cc : ByteArray) (n : Nat) (ret : Option FieldType) : List Cond := .code y cc n ret :: tbG
theorem tb_goodC {y : MethodName} {cc : ByteArray} {n : Nat} {ret : Option FieldType} (hc : Cond.code y cc n ret ∈ tbG) : GoodIn tbG (wsC y cc n ret) := fun w hw => by
  rcases List.mem_cons.mp hw with h | h
  · rw [h]; exact tb_good _ hc
  · exact tb_good _ h
theorem tb_at {w : Cond} (i : Nat) (h : lw_tbl[i]? = some w) (hg : goodWord w = true) : w ∈ tbG := List.mem_filter.mpr ⟨List.mem_of_getElem? h, hg⟩
theorem tb_ws {ws : List Cond} (h : ws.all (fun w => decide (w ∈ lw_tbl) && goodWord w) = true) : ∀ w ∈ ws, w ∈ tbG := fun w hw => by
  have h1 := List.all_eq_true.mp h w hw
  simp only [Bool.and_eq_true, decide_eq_true_eq] at h1
  exact List.mem_filter.mpr ⟨h1.1, h1.2⟩
abbrev Cx : Type := va_G × ClassId × ClassId
abbrev cxT (z : Cx) : List (ClassId × FieldType) := [(z.2.1, FieldType.int), (z.2.2, FieldType.long)]
def gS (ov : Option Value) : Array Value → State → Outcome → State → Prop := fun _ st oc t => oc = .returned ov ∧ t.heap = st.heap
abbrev rPc (z : Cx) (w : va_W) (av : List Value) : Array Value → State → Prop := va_Pc av (fun U => va_P z.1 vwCl w U.heap ∧ va_K z.1 vwCl (cxT z) U)
abbrev mPc (z : Cx) (w : va_W) (sz : Nat) (av : List Value) : Array Value → State → Prop := va_Pc av (fun U => U.heap.size = sz ∧ va_P z.1 vwCl w U.heap ∧ va_K z.1 vwCl (cxT z) U ∧ va_D (fun _ => True) w)
def gM (z : Cx) (A : Nat → Prop) (ov : Option Value) (w : va_W) : Array Value → State → Outcome → State → Prop := fun _ st oc t => (oc = .returned ov ∧ va_P z.1 vwCl w t.heap ∧ va_K z.1 vwCl (cxT z) t ∧ va_D A w) ∧ va_F A st t

section GK
variable {p : Program} {l : Launch} {e : Env} {R : Room} {s : State} {m : MethodId} {args : Array Value} {below : List Frame} {meth : Method} {c : Code} {H : Heap} {locs : List Loc} {Q : State → Prop}
variable {cc : ByteArray} {pc : Nat} {ls : Array Slot} {rest : List Value}
theorem gz_eq (hexec : p.tables.exec = Jvm.exec) (hb : c.code = cc) {b : Bool} {off : Int} {tgt : Nat} (hdg : decode cc pc = .ok (.ifCond .eq off, 3)) (ht : (pc : Int) + off = (tgt : Int)) (kt : ¬ b = true → W p l e R s m args below meth c H locs 0 0 Q (F0 m tgt ls rest)) (kf : b = true → W p l e R s m args below meth c H locs 0 0 Q (F0 m (pc + 3) ls rest)) : W p l e R s m args below meth c H locs 0 0 Q (F0 m pc ls (.int (zB b) :: rest)) :=
  lv_if_eq hexec hb hdg ht (fun h => kt (zB_0 h)) (fun h => kf (zB_1 h))
theorem gz_ne (hexec : p.tables.exec = Jvm.exec) (hb : c.code = cc) {b : Bool} {off : Int} {tgt : Nat} (hdg : decode cc pc = .ok (.ifCond .ne off, 3)) (ht : (pc : Int) + off = (tgt : Int)) (kt : b = true → W p l e R s m args below meth c H locs 0 0 Q (F0 m tgt ls rest)) (kf : ¬ b = true → W p l e R s m args below meth c H locs 0 0 Q (F0 m (pc + 3) ls rest)) : W p l e R s m args below meth c H locs 0 0 Q (F0 m pc ls (.int (zB b) :: rest)) :=
  lv_if_ne hexec hb hdg ht (fun h => kt (zB_1 h)) (fun h => kf (zB_0 h))
theorem zB_inj {a b : Bool} (h : zB a = zB b) : a = b := by
  cases a <;> cases b <;> first | rfl | exact absurd h (by decide)
theorem gz_cne (hexec : p.tables.exec = Jvm.exec) (hb : c.code = cc) {a b : Bool} {off : Int} {tgt : Nat} (hdg : decode cc pc = .ok (.if_icmp .ne off, 3)) (ht : (pc : Int) + off = (tgt : Int)) (kt : ¬ a = b → W p l e R s m args below meth c H locs 0 0 Q (F0 m tgt ls rest)) (kf : a = b → W p l e R s m args below meth c H locs 0 0 Q (F0 m (pc + 3) ls rest)) : W p l e R s m args below meth c H locs 0 0 Q (F0 m pc ls (.int (zB b) :: .int (zB a) :: rest)) :=
  lv_icmp_ne hexec hb hdg ht (fun h => kt (fun q => h (by rw [q]))) (fun h => kf (zB_inj h))
theorem gz_ceq (hexec : p.tables.exec = Jvm.exec) (hb : c.code = cc) {a b : Bool} {off : Int} {tgt : Nat} (hdg : decode cc pc = .ok (.if_icmp .eq off, 3)) (ht : (pc : Int) + off = (tgt : Int)) (kt : a = b → W p l e R s m args below meth c H locs 0 0 Q (F0 m tgt ls rest)) (kf : ¬ a = b → W p l e R s m args below meth c H locs 0 0 Q (F0 m (pc + 3) ls rest)) : W p l e R s m args below meth c H locs 0 0 Q (F0 m pc ls (.int (zB b) :: .int (zB a) :: rest)) :=
  lv_icmp_eq hexec hb hdg ht (fun h => kt (zB_inj h)) (fun h => kf (fun q => h (by rw [q])))
theorem gl_eq (hexec : p.tables.exec = Jvm.exec) (hb : c.code = cc) {x y : Int64} {off : Int} {tgt : Nat} (hd0 : decode cc pc = .ok (.lcmp, 1)) (hdg : decode cc (pc + 1) = .ok (.ifCond .eq off, 3)) (ht : ((pc + 1 : Nat) : Int) + off = (tgt : Int)) (kt : x = y → W p l e R s m args below meth c H locs 0 0 Q (F0 m tgt ls rest)) (kf : ¬ x = y → W p l e R s m args below meth c H locs 0 0 Q (F0 m (pc + 4) ls rest)) : W p l e R s m args below meth c H locs 0 0 Q (F0 m pc ls (.long y :: .long x :: rest)) :=
  W.lcmp hexec hb hd0 (lv_if_eq hexec hb hdg ht (fun h => kt ((lg_cmp_eq x y).mp h)) (fun h => kf (fun q => h ((lg_cmp_eq x y).mpr q))))
theorem gl_ne (hexec : p.tables.exec = Jvm.exec) (hb : c.code = cc) {x y : Int64} {off : Int} {tgt : Nat} (hd0 : decode cc pc = .ok (.lcmp, 1)) (hdg : decode cc (pc + 1) = .ok (.ifCond .ne off, 3)) (ht : ((pc + 1 : Nat) : Int) + off = (tgt : Int)) (kt : ¬ x = y → W p l e R s m args below meth c H locs 0 0 Q (F0 m tgt ls rest)) (kf : x = y → W p l e R s m args below meth c H locs 0 0 Q (F0 m (pc + 4) ls rest)) : W p l e R s m args below meth c H locs 0 0 Q (F0 m pc ls (.long y :: .long x :: rest)) :=
  W.lcmp hexec hb hd0 (lv_if_ne hexec hb hdg ht (fun h => kt (fun q => h ((lg_cmp_eq x y).mpr q))) (fun h => kf ((lg_cmp_eq x y).mp h)))
theorem gl_lt (hexec : p.tables.exec = Jvm.exec) (hb : c.code = cc) {x y : Int64} {off : Int} {tgt : Nat} (hd0 : decode cc pc = .ok (.lcmp, 1)) (hdg : decode cc (pc + 1) = .ok (.ifCond .lt off, 3)) (ht : ((pc + 1 : Nat) : Int) + off = (tgt : Int)) (kt : x < y → W p l e R s m args below meth c H locs 0 0 Q (F0 m tgt ls rest)) (kf : ¬ x < y → W p l e R s m args below meth c H locs 0 0 Q (F0 m (pc + 4) ls rest)) : W p l e R s m args below meth c H locs 0 0 Q (F0 m pc ls (.long y :: .long x :: rest)) :=
  W.lcmp hexec hb hd0 (lv_if_lt hexec hb hdg ht (fun h => kt ((lg_cmp_lt x y).mp h)) (fun h => kf (fun q => h ((lg_cmp_lt x y).mpr q))))
theorem gl_ge (hexec : p.tables.exec = Jvm.exec) (hb : c.code = cc) {x y : Int64} {off : Int} {tgt : Nat} (hd0 : decode cc pc = .ok (.lcmp, 1)) (hdg : decode cc (pc + 1) = .ok (.ifCond .ge off, 3)) (ht : ((pc + 1 : Nat) : Int) + off = (tgt : Int)) (kt : y ≤ x → W p l e R s m args below meth c H locs 0 0 Q (F0 m tgt ls rest)) (kf : ¬ y ≤ x → W p l e R s m args below meth c H locs 0 0 Q (F0 m (pc + 4) ls rest)) : W p l e R s m args below meth c H locs 0 0 Q (F0 m pc ls (.long y :: .long x :: rest)) :=
  W.lcmp hexec hb hd0 (lv_if_ge hexec hb hdg ht (fun h => kt ((lg_cmp_ge x y).mp h)) (fun h => kf (fun q => h ((lg_cmp_ge x y).mpr q))))
theorem gl_gt (hexec : p.tables.exec = Jvm.exec) (hb : c.code = cc) {x y : Int64} {off : Int} {tgt : Nat} (hd0 : decode cc pc = .ok (.lcmp, 1)) (hdg : decode cc (pc + 1) = .ok (.ifCond .gt off, 3)) (ht : ((pc + 1 : Nat) : Int) + off = (tgt : Int)) (kt : y < x → W p l e R s m args below meth c H locs 0 0 Q (F0 m tgt ls rest)) (kf : ¬ y < x → W p l e R s m args below meth c H locs 0 0 Q (F0 m (pc + 4) ls rest)) : W p l e R s m args below meth c H locs 0 0 Q (F0 m pc ls (.long y :: .long x :: rest)) :=
  W.lcmp hexec hb hd0 (lv_if_gt hexec hb hdg ht (fun h => kt ((lg_cmp_gt x y).mp h)) (fun h => kf (fun q => h ((lg_cmp_gt x y).mpr q))))
theorem gl_le (hexec : p.tables.exec = Jvm.exec) (hb : c.code = cc) {x y : Int64} {off : Int} {tgt : Nat} (hd0 : decode cc pc = .ok (.lcmp, 1)) (hdg : decode cc (pc + 1) = .ok (.ifCond .le off, 3)) (ht : ((pc + 1 : Nat) : Int) + off = (tgt : Int)) (kt : x ≤ y → W p l e R s m args below meth c H locs 0 0 Q (F0 m tgt ls rest)) (kf : ¬ x ≤ y → W p l e R s m args below meth c H locs 0 0 Q (F0 m (pc + 4) ls rest)) : W p l e R s m args below meth c H locs 0 0 Q (F0 m pc ls (.long y :: .long x :: rest)) :=
  W.lcmp hexec hb hd0 (lv_if_le hexec hb hdg ht (fun h => kt ((lg_cmp_le x y).mp h)) (fun h => kf (fun q => h ((lg_cmp_le x y).mpr q))))
theorem gt_in (hexec : p.tables.exec = Jvm.exec) (hb : c.code = cc) {dflt lo hi : Int} {offs : Array Int} {len : Nat} {x k : Int32} {off : Int} {tgt : Nat} (hdg : decode cc pc = .ok (.tableswitch dflt lo hi offs, len)) (hx : x = k) (h1 : ¬ k.toInt < lo) (h2 : ¬ hi < k.toInt) (ho : offs[(k.toInt - lo).toNat]? = some off) (ht : (pc : Int) + off = (tgt : Int)) (k : W p l e R s m args below meth c H locs 0 0 Q (F0 m tgt ls rest)) : W p l e R s m args below meth c H locs 0 0 Q (F0 m pc ls (.int x :: rest)) := by
  subst hx
  exact lv_tableIn hexec hb hdg h1 h2 ho ht k
theorem gk_in (hexec : p.tables.exec = Jvm.exec) (hb : c.code = cc) {dflt : Int} {ps : Array (Int × Int)} {len : Nat} {x k : Int32} {off : Int} {tgt : Nat} (hdg : decode cc pc = .ok (.lookupswitch dflt ps, len)) (hx : x = k) (hp : (ps.toList.zip (ps.toList.drop 1)).all (fun (a, next) => a.1 < next.1) = true) (ho : Op.lookupswitch.offset ps.toList dflt k.toInt = off) (ht : (pc : Int) + off = (tgt : Int)) (k : W p l e R s m args below meth c H locs 0 0 Q (F0 m tgt ls rest)) : W p l e R s m args below meth c H locs 0 0 Q (F0 m pc ls (.int x :: rest)) := by
  subst hx
  exact lv_lookup hexec hb hdg hp ho ht k
theorem ks {y : MethodName} {bytes : ByteArray} {maxL nL n index : Nat} {ret : Option FieldType} {rm : Room} {own : String} {As st : List Value} {ov : Option Value} (S : CallFix p m c cc nL s args tbG own) (hM : Met l y (wsC y bytes maxL ret) rm (fun v _ => v = As.toArray) (gS ov) 0 0 (fun _ => False)) (cw : CallB R s args own index y bytes maxL ret (wsC y bytes maxL ret) rm 0 0 n ∧ (Cond.static y).before args s = true) (hn : As.length = n) (hsz : ls.size = nL) (hst : st = As.reverse ++ rest) (hcat : (rest.map fun v => v.category).sum ≤ 8) (hdg : decode cc pc = .ok (.invokestatic index, 3)) (kk : W p l e R s m args below meth c H locs 0 0 Q (F0 m (pc + 3) ls (ov.toList ++ rest))) : W p l e R s m args below meth c H locs 0 0 Q (F0 m pc ls st) := by
  subst hst
  intro T hT X
  obtain ⟨v, st₀, t, T', L, h0, X', hL, e1, ⟨hv, hh⟩, st⟩ := W.runS S hM cw preEq (g := F0 m pc ls (As.reverse ++ rest)) rfl hn hsz rfl (lv_room (ls := ls) (pc := pc) (m := m) (rest := As.reverse ++ rest) hcat) hdg ⟨Nat.zero_le _, Nat.zero_le _⟩ T hT X
  cases hv
  obtain ⟨t2, a1, b1⟩ := kk T' (by rw [e1, hh, h0]) (Stand.forget X' (fun q h => (hL q h).elim))
  exact ⟨t2, st t2 a1, b1⟩
theorem kr {z : Cx} {w : va_W} {y : MethodName} {bytes : ByteArray} {maxL nL n index : Nat} {ret : Option FieldType} {rm : Room} {own C : String} {As st : List Value} {ov : Option Value} {b q0 ci : Nat} {q : vw_C} {fs : List Value} (S : CallFix p m c cc nL s args tbG own) (hK : va_K z.1 vwCl (cxT z) s) (hP : va_P z.1 vwCl w H) (hM : Met l y (wsC y bytes maxL ret) rm (rPc z w (.ref b :: As)) (gS ov) 0 0 (fun _ => False)) (cw : CallW R s args own C index y bytes maxL ret (wsC y bytes maxL ret) rm 0 0 n) (hc : vwCl[ci]? = some q) (hC : q.1 = C) (he : w[q0]? = some (b, .inr (ci, fs))) (hn : As.length = n) (hsz : ls.size = nL) (hst : st = As.reverse ++ .ref b :: rest) (hcat : (rest.map fun v => v.category).sum ≤ 8) (hdg : decode cc pc = .ok (.invokevirtual index, 3)) (kk : W p l e R s m args below meth c H locs 0 0 Q (F0 m (pc + 3) ls (ov.toList ++ rest))) : W p l e R s m args below meth c H locs 0 0 Q (F0 m pc ls st) := by
  subst hst
  subst hC
  intro T hT X
  obtain ⟨v, st₀, t, T', L, h0, X', hL, e1, ⟨hv, hh⟩, st⟩ := W.runV S hM cw ⟨fun a U g mk q => ⟨q.1, q.2.1, va_K.moved (u := U) (U := U.calling g mk a) (Vm.Alike.refl U.vm) q.2.2⟩, va_recv hK hP hc he, fun U hU hW => ⟨rfl, by rw [hU]; exact hP, va_K.moved hW.alike hK⟩⟩ (g := F0 m pc ls (As.reverse ++ .ref b :: rest)) rfl hn hsz rfl (lv_room (ls := ls) (pc := pc) (m := m) (rest := As.reverse ++ .ref b :: rest) hcat) hdg ⟨Nat.zero_le _, Nat.zero_le _⟩ T hT X
  cases hv
  obtain ⟨t2, a1, b1⟩ := kk T' (by rw [e1, hh, h0]) (Stand.forget X' (fun q h => (hL q h).elim))
  exact ⟨t2, st t2 a1, b1⟩
theorem km {z : Cx} {w w' : va_W} {A : Nat → Prop} {y : MethodName} {bytes : ByteArray} {maxL nL n index : Nat} {ret : Option FieldType} {rm : Room} {own C : String} {As st : List Value} {ov : Option Value} {b q0 ci : Nat} {q : vw_C} {fs : List Value} (S : CallFix p m c cc nL s args tbG own) (hK : va_K z.1 vwCl (cxT z) s) (hA : ∀ q, s.heap.size ≤ q → A q) (hP : va_P z.1 vwCl w H) (hD : va_D A w) (hS : va_S A s.heap H locs) (hM : Met l y (wsC y bytes maxL ret) rm (mPc z w H.size (.ref b :: As)) (gM z (va_A w H.size) ov w') 0 0 (va_A w H.size)) (cw : CallW R s args own C index y bytes maxL ret (wsC y bytes maxL ret) rm 0 0 n) (hc : vwCl[ci]? = some q) (hC : q.1 = C) (he : w[q0]? = some (b, .inr (ci, fs))) (hn : As.length = n) (hsz : ls.size = nL) (hst : st = As.reverse ++ .ref b :: rest) (hcat : (rest.map fun v => v.category).sum ≤ 8) (hdg : decode cc pc = .ok (.invokevirtual index, 3)) (kk : ∀ (H : Heap) (locs : List Loc), va_P z.1 vwCl w' H → va_D A w' → va_S A s.heap H locs → W p l e R s m args below meth c H locs 0 0 Q (F0 m (pc + 3) ls (ov.toList ++ rest))) : W p l e R s m args below meth c H locs 0 0 Q (F0 m pc ls st) := by
  subst hst
  subst hC
  have hF : ∀ q, va_A w H.size q → A q := fun q h => by
    rcases h with ⟨k, e, h⟩ | h
    · exact hD.2 k _ h
    · exact hA q (Nat.le_trans hS.1 h)
  intro T hT X
  obtain ⟨v, st₀, t, T', L, h0, X', hL, e1, e2, ⟨⟨hv, hP1, hK1, hD1⟩, hz, hk⟩, st⟩ := va_runV S hM cw ⟨fun a U g mk q => ⟨q.1, q.2.1, q.2.2.1, va_K.moved (u := U) (U := U.calling g mk a) (Vm.Alike.refl U.vm) q.2.2.2.1, q.2.2.2.2⟩, va_recv hK hP hc he, fun U hU hW => ⟨rfl, by rw [hU], by rw [hU]; exact hP, va_K.moved hW.alike hK, hD.weaken (fun _ _ _ _ => trivial)⟩⟩ (g := F0 m pc ls (As.reverse ++ .ref b :: rest)) rfl hn hsz rfl (lv_room (ls := ls) (pc := pc) (m := m) (rest := As.reverse ++ .ref b :: rest) hcat) hdg ⟨Nat.zero_le _, Nat.zero_le _⟩ T hT X
  cases hv
  rw [h0] at hz hk
  obtain ⟨t2, a1, b1⟩ := kk T'.heap (locs ++ L) (by rw [e1]; exact hP1) (hD1.weaken (fun k q _ h => hF q.1 h)) ⟨Nat.le_trans hS.1 (by rw [e1]; exact hz), fun q h1 h2 => by rw [e1, hk q (Nat.lt_of_lt_of_le h1 hS.1) (fun z => h2 (hF q z))]; exact hS.2.1 q h1 h2, fun q hq => by
      rcases List.mem_append.mp hq with h | h
      · exact hS.2.2 q h
      · exact hF _ (hL q h)⟩ T' rfl X'
  exact ⟨t2, st t2 a1, b1⟩
end GK
theorem tb_cB {R : Room} {s : State} {args : Array Value} {own : String} {index maxL : Nat} {y : MethodName} {bytes : ByteArray} {ret : Option FieldType} {rm : Room} (n : Nat) (hts : ∀ w ∈ tbG, w.before args s = true) (hc : Cond.code y bytes maxL ret ∈ tbG) (hi : Cond.initialized y.cls ∈ tbG) (hl : Cond.methodLink own index y ∈ tbG) (hrc : rm.cells = 0) (hrs : rm.slots = 0) (hd : y.cls ≠ "java/lang/invoke/MethodHandle" ∧ y.cls ≠ "java/lang/invoke/VarHandle" ∧ (parseMethodDescriptor y.desc).map (fun d => d.parameters.length) = some n) (hR : rm.frames + 1 ≤ R.frames ∧ 8 + (maxL + 11) + rm.locals ≤ R.locals) : CallB R s args own index y bytes maxL ret (wsC y bytes maxL ret) rm 0 0 n :=
  callB_of n hts (tb_goodC hc) rfl hrc hrs (hts _ hi) (hts _ hl) hd hR
theorem mk_s_i {l : Launch} {y : MethodName} {cc : ByteArray} {maxL : Nat} {rm : Room} {own : String} (hy : plainName y.cls = true) (ho : y.cls = own) (av : List Value) (hlen : (lg_sl av).length ≤ maxL) {res : Int32} (walk : ∀ (p : Program) (e : Env) (s : State) (m : MethodId) (below : List Frame) (meth : Method) (c : Code) (H : Heap) (locs : List Loc) (Q : State → Prop) (ls : Array Slot), CallFix p m c cc maxL s av.toArray tbG own → lv_has ls maxL (lv_args 0 av) → (∀ (v : Int32) (pc : Nat) (ls : Array Slot), v = res → decode cc pc = .ok (.ireturn, 1) → W p l e rm s m av.toArray below meth c H locs 0 0 Q (F0 m pc ls [.int v])) → W p l e rm s m av.toArray below meth c H locs 0 0 Q (F0 m 0 ls [])) : Met l y (wsC y cc maxL (some .int)) rm (fun v _ => v = av.toArray) (gS (some (.int res))) 0 0 (fun _ => False) := by
  refine Met.ofW (cc := cc) (maxL := maxL) (ret := (some .int)) hy rfl ?_
  intro p e s m args below meth c s₁ B hml hv
  subst hv
  have hts := atoms_spec (ws := wsC y cc maxL (some .int)) B.pre
  have hown : s.vm.findClass own = some m.cls := by rw [← ho]; exact findClass_of_methodNamed B.named
  have hl := lv_entry av (n := maxL) hlen
  rw [lg_entry_eq]
  generalize (lg_sl av ++ List.replicate (maxL - (lg_sl av).length) Slot.unset).toArray = ls at hl ⊢
  have hlocks := B.notSynchronized
  refine walk p e s m below meth c s.heap [] _ ls ⟨B.exec, B.bytes, hml, hown, fun w h => hts w (List.mem_cons_of_mem _ h)⟩ hl (fun v pc ls hv hd => ?_)
  subst hv
  exact W.iret B.exec B.bytes B.returns (fun t ht _ => ⟨rfl, ht⟩) (fun q h => by cases h) hd
theorem mk_r_i {l : Launch} {z : Cx} {w : va_W} {y : MethodName} {cc : ByteArray} {maxL : Nat} {rm : Room} {own : String} (hy : plainName y.cls = true) (ho : y.cls = own) (av : List Value) (hlen : (lg_sl av).length ≤ maxL) {res : Int32} (walk : ∀ (p : Program) (e : Env) (s : State) (m : MethodId) (below : List Frame) (meth : Method) (c : Code) (H : Heap) (locs : List Loc) (Q : State → Prop) (ls : Array Slot), CallFix p m c cc maxL s av.toArray tbG own → va_K z.1 vwCl (cxT z) s → va_P z.1 vwCl w H → lv_has ls maxL (lv_args 0 av) → (∀ (v : Int32) (pc : Nat) (ls : Array Slot), v = res → decode cc pc = .ok (.ireturn, 1) → W p l e rm s m av.toArray below meth c H locs 0 0 Q (F0 m pc ls [.int v])) → W p l e rm s m av.toArray below meth c H locs 0 0 Q (F0 m 0 ls [])) : Met l y (wsC y cc maxL (some .int)) rm (rPc z w av) (gS (some (.int res))) 0 0 (fun _ => False) := by
  refine Met.ofW (cc := cc) (maxL := maxL) (ret := (some .int)) hy rfl ?_
  intro p e s m args below meth c s₁ B hml hv
  obtain ⟨hv, hP, hK⟩ := hv
  subst hv
  have hts := atoms_spec (ws := wsC y cc maxL (some .int)) B.pre
  have hown : s.vm.findClass own = some m.cls := by rw [← ho]; exact findClass_of_methodNamed B.named
  have hl := lv_entry av (n := maxL) hlen
  rw [lg_entry_eq]
  generalize (lg_sl av ++ List.replicate (maxL - (lg_sl av).length) Slot.unset).toArray = ls at hl ⊢
  have hlocks := B.notSynchronized
  refine walk p e s m below meth c s.heap [] _ ls ⟨B.exec, B.bytes, hml, hown, fun w h => hts w (List.mem_cons_of_mem _ h)⟩ hK hP hl (fun v pc ls hv hd => ?_)
  subst hv
  exact W.iret B.exec B.bytes B.returns (fun t ht _ => ⟨rfl, ht⟩) (fun q h => by cases h) hd
theorem mk_s_l {l : Launch} {y : MethodName} {cc : ByteArray} {maxL : Nat} {rm : Room} {own : String} (hy : plainName y.cls = true) (ho : y.cls = own) (av : List Value) (hlen : (lg_sl av).length ≤ maxL) {res : Int64} (walk : ∀ (p : Program) (e : Env) (s : State) (m : MethodId) (below : List Frame) (meth : Method) (c : Code) (H : Heap) (locs : List Loc) (Q : State → Prop) (ls : Array Slot), CallFix p m c cc maxL s av.toArray tbG own → lv_has ls maxL (lv_args 0 av) → (∀ (v : Int64) (pc : Nat) (ls : Array Slot), v = res → decode cc pc = .ok (.lreturn, 1) → W p l e rm s m av.toArray below meth c H locs 0 0 Q (F0 m pc ls [.long v])) → W p l e rm s m av.toArray below meth c H locs 0 0 Q (F0 m 0 ls [])) : Met l y (wsC y cc maxL (some .long)) rm (fun v _ => v = av.toArray) (gS (some (.long res))) 0 0 (fun _ => False) := by
  refine Met.ofW (cc := cc) (maxL := maxL) (ret := (some .long)) hy rfl ?_
  intro p e s m args below meth c s₁ B hml hv
  subst hv
  have hts := atoms_spec (ws := wsC y cc maxL (some .long)) B.pre
  have hown : s.vm.findClass own = some m.cls := by rw [← ho]; exact findClass_of_methodNamed B.named
  have hl := lv_entry av (n := maxL) hlen
  rw [lg_entry_eq]
  generalize (lg_sl av ++ List.replicate (maxL - (lg_sl av).length) Slot.unset).toArray = ls at hl ⊢
  have hlocks := B.notSynchronized
  refine walk p e s m below meth c s.heap [] _ ls ⟨B.exec, B.bytes, hml, hown, fun w h => hts w (List.mem_cons_of_mem _ h)⟩ hl (fun v pc ls hv hd => ?_)
  subst hv
  exact W.lret B.exec B.bytes B.returns (fun t ht _ => ⟨rfl, ht⟩) (fun q h => by cases h) hd
theorem mk_r_l {l : Launch} {z : Cx} {w : va_W} {y : MethodName} {cc : ByteArray} {maxL : Nat} {rm : Room} {own : String} (hy : plainName y.cls = true) (ho : y.cls = own) (av : List Value) (hlen : (lg_sl av).length ≤ maxL) {res : Int64} (walk : ∀ (p : Program) (e : Env) (s : State) (m : MethodId) (below : List Frame) (meth : Method) (c : Code) (H : Heap) (locs : List Loc) (Q : State → Prop) (ls : Array Slot), CallFix p m c cc maxL s av.toArray tbG own → va_K z.1 vwCl (cxT z) s → va_P z.1 vwCl w H → lv_has ls maxL (lv_args 0 av) → (∀ (v : Int64) (pc : Nat) (ls : Array Slot), v = res → decode cc pc = .ok (.lreturn, 1) → W p l e rm s m av.toArray below meth c H locs 0 0 Q (F0 m pc ls [.long v])) → W p l e rm s m av.toArray below meth c H locs 0 0 Q (F0 m 0 ls [])) : Met l y (wsC y cc maxL (some .long)) rm (rPc z w av) (gS (some (.long res))) 0 0 (fun _ => False) := by
  refine Met.ofW (cc := cc) (maxL := maxL) (ret := (some .long)) hy rfl ?_
  intro p e s m args below meth c s₁ B hml hv
  obtain ⟨hv, hP, hK⟩ := hv
  subst hv
  have hts := atoms_spec (ws := wsC y cc maxL (some .long)) B.pre
  have hown : s.vm.findClass own = some m.cls := by rw [← ho]; exact findClass_of_methodNamed B.named
  have hl := lv_entry av (n := maxL) hlen
  rw [lg_entry_eq]
  generalize (lg_sl av ++ List.replicate (maxL - (lg_sl av).length) Slot.unset).toArray = ls at hl ⊢
  have hlocks := B.notSynchronized
  refine walk p e s m below meth c s.heap [] _ ls ⟨B.exec, B.bytes, hml, hown, fun w h => hts w (List.mem_cons_of_mem _ h)⟩ hK hP hl (fun v pc ls hv hd => ?_)
  subst hv
  exact W.lret B.exec B.bytes B.returns (fun t ht _ => ⟨rfl, ht⟩) (fun q h => by cases h) hd
theorem mk_s_z {l : Launch} {y : MethodName} {cc : ByteArray} {maxL : Nat} {rm : Room} {own : String} (hy : plainName y.cls = true) (ho : y.cls = own) (av : List Value) (hlen : (lg_sl av).length ≤ maxL) {res : Bool} (walk : ∀ (p : Program) (e : Env) (s : State) (m : MethodId) (below : List Frame) (meth : Method) (c : Code) (H : Heap) (locs : List Loc) (Q : State → Prop) (ls : Array Slot), CallFix p m c cc maxL s av.toArray tbG own → lv_has ls maxL (lv_args 0 av) → (∀ (v : Bool) (pc : Nat) (ls : Array Slot), v = res → decode cc pc = .ok (.ireturn, 1) → W p l e rm s m av.toArray below meth c H locs 0 0 Q (F0 m pc ls [.int (zB v)])) → W p l e rm s m av.toArray below meth c H locs 0 0 Q (F0 m 0 ls [])) : Met l y (wsC y cc maxL (some .boolean)) rm (fun v _ => v = av.toArray) (gS (some (.int (zB res)))) 0 0 (fun _ => False) := by
  refine Met.ofW (cc := cc) (maxL := maxL) (ret := (some .boolean)) hy rfl ?_
  intro p e s m args below meth c s₁ B hml hv
  subst hv
  have hts := atoms_spec (ws := wsC y cc maxL (some .boolean)) B.pre
  have hown : s.vm.findClass own = some m.cls := by rw [← ho]; exact findClass_of_methodNamed B.named
  have hl := lv_entry av (n := maxL) hlen
  rw [lg_entry_eq]
  generalize (lg_sl av ++ List.replicate (maxL - (lg_sl av).length) Slot.unset).toArray = ls at hl ⊢
  have hlocks := B.notSynchronized
  refine walk p e s m below meth c s.heap [] _ ls ⟨B.exec, B.bytes, hml, hown, fun w h => hts w (List.mem_cons_of_mem _ h)⟩ hl (fun v pc ls hv hd => ?_)
  subst hv
  exact W.zret B.exec B.bytes B.returns (zB_nar v) (fun t ht _ => ⟨rfl, ht⟩) (fun q h => by cases h) hd
theorem mk_r_z {l : Launch} {z : Cx} {w : va_W} {y : MethodName} {cc : ByteArray} {maxL : Nat} {rm : Room} {own : String} (hy : plainName y.cls = true) (ho : y.cls = own) (av : List Value) (hlen : (lg_sl av).length ≤ maxL) {res : Bool} (walk : ∀ (p : Program) (e : Env) (s : State) (m : MethodId) (below : List Frame) (meth : Method) (c : Code) (H : Heap) (locs : List Loc) (Q : State → Prop) (ls : Array Slot), CallFix p m c cc maxL s av.toArray tbG own → va_K z.1 vwCl (cxT z) s → va_P z.1 vwCl w H → lv_has ls maxL (lv_args 0 av) → (∀ (v : Bool) (pc : Nat) (ls : Array Slot), v = res → decode cc pc = .ok (.ireturn, 1) → W p l e rm s m av.toArray below meth c H locs 0 0 Q (F0 m pc ls [.int (zB v)])) → W p l e rm s m av.toArray below meth c H locs 0 0 Q (F0 m 0 ls [])) : Met l y (wsC y cc maxL (some .boolean)) rm (rPc z w av) (gS (some (.int (zB res)))) 0 0 (fun _ => False) := by
  refine Met.ofW (cc := cc) (maxL := maxL) (ret := (some .boolean)) hy rfl ?_
  intro p e s m args below meth c s₁ B hml hv
  obtain ⟨hv, hP, hK⟩ := hv
  subst hv
  have hts := atoms_spec (ws := wsC y cc maxL (some .boolean)) B.pre
  have hown : s.vm.findClass own = some m.cls := by rw [← ho]; exact findClass_of_methodNamed B.named
  have hl := lv_entry av (n := maxL) hlen
  rw [lg_entry_eq]
  generalize (lg_sl av ++ List.replicate (maxL - (lg_sl av).length) Slot.unset).toArray = ls at hl ⊢
  have hlocks := B.notSynchronized
  refine walk p e s m below meth c s.heap [] _ ls ⟨B.exec, B.bytes, hml, hown, fun w h => hts w (List.mem_cons_of_mem _ h)⟩ hK hP hl (fun v pc ls hv hd => ?_)
  subst hv
  exact W.zret B.exec B.bytes B.returns (zB_nar v) (fun t ht _ => ⟨rfl, ht⟩) (fun q h => by cases h) hd
theorem mk_m_i {l : Launch} {z : Cx} {S : Type} {wf : S → va_W} {σ : S} {y : MethodName} {cc : ByteArray} {maxL : Nat} {rm : Room} {own : String} (hy : plainName y.cls = true) (ho : y.cls = own) (sz : Nat) (av : List Value) (hlen : (lg_sl av).length ≤ maxL) {res : Int32 × S} (walk : ∀ (p : Program) (e : Env) (s : State) (m : MethodId) (below : List Frame) (meth : Method) (c : Code) (A : Nat → Prop) (H : Heap) (locs : List Loc) (Q : State → Prop) (ls : Array Slot), CallFix p m c cc maxL s av.toArray tbG own → va_K z.1 vwCl (cxT z) s → (∀ q, s.heap.size ≤ q → A q) → va_P z.1 vwCl (wf σ) H → va_D A (wf σ) → va_S A s.heap H locs → lv_has ls maxL (lv_args 0 av) → (∀ (v : Int32) (u : S) (H : Heap) (locs : List Loc) (pc : Nat) (ls : Array Slot), (v, u) = res → va_P z.1 vwCl (wf u) H → va_D A (wf u) → va_S A s.heap H locs → decode cc pc = .ok (.ireturn, 1) → W p l e rm s m av.toArray below meth c H locs 0 0 Q (F0 m pc ls [.int v])) → W p l e rm s m av.toArray below meth c H locs 0 0 Q (F0 m 0 ls [])) : Met l y (wsC y cc maxL (some .int)) rm (mPc z (wf σ) sz av) (gM z (va_A (wf σ) sz) (some (.int res.1)) (wf res.2)) 0 0 (va_A (wf σ) sz) := by
  refine Met.ofW (cc := cc) (maxL := maxL) (ret := (some .int)) hy rfl ?_
  intro p e s m args below meth c s₁ B hml hv
  obtain ⟨hv, hsz, hP, hK, hD0⟩ := hv
  subst hv
  subst hsz
  have hts := atoms_spec (ws := wsC y cc maxL (some .int)) B.pre
  have hown : s.vm.findClass own = some m.cls := by rw [← ho]; exact findClass_of_methodNamed B.named
  have hD := hD0.self (sz := s.heap.size)
  have hl := lv_entry av (n := maxL) hlen
  rw [lg_entry_eq]
  generalize (lg_sl av ++ List.replicate (maxL - (lg_sl av).length) Slot.unset).toArray = ls at hl ⊢
  have hlocks := B.notSynchronized
  refine walk p e s m below meth c (va_A (wf σ) s.heap.size) s.heap [] _ ls ⟨B.exec, B.bytes, hml, hown, fun w h => hts w (List.mem_cons_of_mem _ h)⟩ hK (fun q h => Or.inr h) hP hD va_S.rf hl (fun v u H locs pc ls hv hP hD hS hd => ?_)
  subst hv
  exact W.iret B.exec B.bytes B.returns (fun t ht hW => ⟨⟨rfl, by rw [ht]; exact hP, va_K.moved hW.alike hK, hD⟩, hS.F ht⟩) hS.2.2 hd
theorem mk_m_l {l : Launch} {z : Cx} {S : Type} {wf : S → va_W} {σ : S} {y : MethodName} {cc : ByteArray} {maxL : Nat} {rm : Room} {own : String} (hy : plainName y.cls = true) (ho : y.cls = own) (sz : Nat) (av : List Value) (hlen : (lg_sl av).length ≤ maxL) {res : Int64 × S} (walk : ∀ (p : Program) (e : Env) (s : State) (m : MethodId) (below : List Frame) (meth : Method) (c : Code) (A : Nat → Prop) (H : Heap) (locs : List Loc) (Q : State → Prop) (ls : Array Slot), CallFix p m c cc maxL s av.toArray tbG own → va_K z.1 vwCl (cxT z) s → (∀ q, s.heap.size ≤ q → A q) → va_P z.1 vwCl (wf σ) H → va_D A (wf σ) → va_S A s.heap H locs → lv_has ls maxL (lv_args 0 av) → (∀ (v : Int64) (u : S) (H : Heap) (locs : List Loc) (pc : Nat) (ls : Array Slot), (v, u) = res → va_P z.1 vwCl (wf u) H → va_D A (wf u) → va_S A s.heap H locs → decode cc pc = .ok (.lreturn, 1) → W p l e rm s m av.toArray below meth c H locs 0 0 Q (F0 m pc ls [.long v])) → W p l e rm s m av.toArray below meth c H locs 0 0 Q (F0 m 0 ls [])) : Met l y (wsC y cc maxL (some .long)) rm (mPc z (wf σ) sz av) (gM z (va_A (wf σ) sz) (some (.long res.1)) (wf res.2)) 0 0 (va_A (wf σ) sz) := by
  refine Met.ofW (cc := cc) (maxL := maxL) (ret := (some .long)) hy rfl ?_
  intro p e s m args below meth c s₁ B hml hv
  obtain ⟨hv, hsz, hP, hK, hD0⟩ := hv
  subst hv
  subst hsz
  have hts := atoms_spec (ws := wsC y cc maxL (some .long)) B.pre
  have hown : s.vm.findClass own = some m.cls := by rw [← ho]; exact findClass_of_methodNamed B.named
  have hD := hD0.self (sz := s.heap.size)
  have hl := lv_entry av (n := maxL) hlen
  rw [lg_entry_eq]
  generalize (lg_sl av ++ List.replicate (maxL - (lg_sl av).length) Slot.unset).toArray = ls at hl ⊢
  have hlocks := B.notSynchronized
  refine walk p e s m below meth c (va_A (wf σ) s.heap.size) s.heap [] _ ls ⟨B.exec, B.bytes, hml, hown, fun w h => hts w (List.mem_cons_of_mem _ h)⟩ hK (fun q h => Or.inr h) hP hD va_S.rf hl (fun v u H locs pc ls hv hP hD hS hd => ?_)
  subst hv
  exact W.lret B.exec B.bytes B.returns (fun t ht hW => ⟨⟨rfl, by rw [ht]; exact hP, va_K.moved hW.alike hK, hD⟩, hS.F ht⟩) hS.2.2 hd
theorem mk_m_z {l : Launch} {z : Cx} {S : Type} {wf : S → va_W} {σ : S} {y : MethodName} {cc : ByteArray} {maxL : Nat} {rm : Room} {own : String} (hy : plainName y.cls = true) (ho : y.cls = own) (sz : Nat) (av : List Value) (hlen : (lg_sl av).length ≤ maxL) {res : Bool × S} (walk : ∀ (p : Program) (e : Env) (s : State) (m : MethodId) (below : List Frame) (meth : Method) (c : Code) (A : Nat → Prop) (H : Heap) (locs : List Loc) (Q : State → Prop) (ls : Array Slot), CallFix p m c cc maxL s av.toArray tbG own → va_K z.1 vwCl (cxT z) s → (∀ q, s.heap.size ≤ q → A q) → va_P z.1 vwCl (wf σ) H → va_D A (wf σ) → va_S A s.heap H locs → lv_has ls maxL (lv_args 0 av) → (∀ (v : Bool) (u : S) (H : Heap) (locs : List Loc) (pc : Nat) (ls : Array Slot), (v, u) = res → va_P z.1 vwCl (wf u) H → va_D A (wf u) → va_S A s.heap H locs → decode cc pc = .ok (.ireturn, 1) → W p l e rm s m av.toArray below meth c H locs 0 0 Q (F0 m pc ls [.int (zB v)])) → W p l e rm s m av.toArray below meth c H locs 0 0 Q (F0 m 0 ls [])) : Met l y (wsC y cc maxL (some .boolean)) rm (mPc z (wf σ) sz av) (gM z (va_A (wf σ) sz) (some (.int (zB res.1))) (wf res.2)) 0 0 (va_A (wf σ) sz) := by
  refine Met.ofW (cc := cc) (maxL := maxL) (ret := (some .boolean)) hy rfl ?_
  intro p e s m args below meth c s₁ B hml hv
  obtain ⟨hv, hsz, hP, hK, hD0⟩ := hv
  subst hv
  subst hsz
  have hts := atoms_spec (ws := wsC y cc maxL (some .boolean)) B.pre
  have hown : s.vm.findClass own = some m.cls := by rw [← ho]; exact findClass_of_methodNamed B.named
  have hD := hD0.self (sz := s.heap.size)
  have hl := lv_entry av (n := maxL) hlen
  rw [lg_entry_eq]
  generalize (lg_sl av ++ List.replicate (maxL - (lg_sl av).length) Slot.unset).toArray = ls at hl ⊢
  have hlocks := B.notSynchronized
  refine walk p e s m below meth c (va_A (wf σ) s.heap.size) s.heap [] _ ls ⟨B.exec, B.bytes, hml, hown, fun w h => hts w (List.mem_cons_of_mem _ h)⟩ hK (fun q h => Or.inr h) hP hD va_S.rf hl (fun v u H locs pc ls hv hP hD hS hd => ?_)
  subst hv
  exact W.zret B.exec B.bytes B.returns (zB_nar v) (fun t ht hW => ⟨⟨rfl, by rw [ht]; exact hP, va_K.moved hW.alike hK, hD⟩, hS.F ht⟩) hS.2.2 hd
theorem mk_m_v {l : Launch} {z : Cx} {S : Type} {wf : S → va_W} {σ : S} {y : MethodName} {cc : ByteArray} {maxL : Nat} {rm : Room} {own : String} (hy : plainName y.cls = true) (ho : y.cls = own) (sz : Nat) (av : List Value) (hlen : (lg_sl av).length ≤ maxL) {res : S} (walk : ∀ (p : Program) (e : Env) (s : State) (m : MethodId) (below : List Frame) (meth : Method) (c : Code) (A : Nat → Prop) (H : Heap) (locs : List Loc) (Q : State → Prop) (ls : Array Slot), CallFix p m c cc maxL s av.toArray tbG own → va_K z.1 vwCl (cxT z) s → (∀ q, s.heap.size ≤ q → A q) → va_P z.1 vwCl (wf σ) H → va_D A (wf σ) → va_S A s.heap H locs → lv_has ls maxL (lv_args 0 av) → (∀ (u : S) (H : Heap) (locs : List Loc) (pc : Nat) (ls : Array Slot), u = res → va_P z.1 vwCl (wf u) H → va_D A (wf u) → va_S A s.heap H locs → decode cc pc = .ok (.return_, 1) → W p l e rm s m av.toArray below meth c H locs 0 0 Q (F0 m pc ls [])) → W p l e rm s m av.toArray below meth c H locs 0 0 Q (F0 m 0 ls [])) : Met l y (wsC y cc maxL none) rm (mPc z (wf σ) sz av) (gM z (va_A (wf σ) sz) (none) (wf res)) 0 0 (va_A (wf σ) sz) := by
  refine Met.ofW (cc := cc) (maxL := maxL) (ret := none) hy rfl ?_
  intro p e s m args below meth c s₁ B hml hv
  obtain ⟨hv, hsz, hP, hK, hD0⟩ := hv
  subst hv
  subst hsz
  have hts := atoms_spec (ws := wsC y cc maxL none) B.pre
  have hown : s.vm.findClass own = some m.cls := by rw [← ho]; exact findClass_of_methodNamed B.named
  have hD := hD0.self (sz := s.heap.size)
  have hl := lv_entry av (n := maxL) hlen
  rw [lg_entry_eq]
  generalize (lg_sl av ++ List.replicate (maxL - (lg_sl av).length) Slot.unset).toArray = ls at hl ⊢
  have hlocks := B.notSynchronized
  refine walk p e s m below meth c (va_A (wf σ) s.heap.size) s.heap [] _ ls ⟨B.exec, B.bytes, hml, hown, fun w h => hts w (List.mem_cons_of_mem _ h)⟩ hK (fun q h => Or.inr h) hP hD va_S.rf hl (fun u H locs pc ls hv hP hD hS hd => ?_)
  subst hv
  exact W.vret B.exec B.bytes B.returns (fun t ht hW => ⟨⟨rfl, by rw [ht]; exact hP, va_K.moved hW.alike hK, hD⟩, hS.F ht⟩) hS.2.2 hd
end
